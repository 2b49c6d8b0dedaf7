/-! ===== links: each function is what its bytecode does ===== -/
set_option maxRecDepth 10000 in
theorem l_M_picked (d : Nat) (n e : Nat) (σ : Hp) (x1 : Int) (x2 : Int) (r : Int × Hp) (h : f_M_picked σ x1 x2 = some r) : Ev (d + 3) 228 [pvR 11 0 129, pvI x1, pvI x2] (true, n, e, σ) (0, some (pvI r.1), true, n, e, r.2) := by
  unfold f_M_picked at h
  refine Ev.of mtE228 rfl rfl rfl rfl ?_
  show Go none (Ev (d + 2)) mt228 0 [some (pvR 11 0 129), some (pvI x1), some (pvI x2)] [] (true, n, e, σ) (0, some (pvI r.1), true, n, e, r.2)
  refine go_aload_n (pc' := 1) dX11_picked_0 rfl rfl (Nat.le_of_ble_eq_true rfl) ?_
  refine go_aload_n (pc' := 2) dX11_picked_1 rfl rfl (Nat.le_of_ble_eq_true rfl) ?_
  refine go_iload_n (pc' := 3) dX11_picked_2 rfl rfl ?_
  obtain ⟨v1, k2, h⟩ := bd h
  have k2 := l_M_isDim (d + 0) n e σ x1 _ k2
  refine go_call (kc := 171) (Mc := mt171) (v := some (pvI v1)) (w' := (true, n, e, σ)) (pc' := 6) (st' := [pvI v1, pvR 11 0 129]) [pvR 11 0 129, pvI x1] [pvR 11 0 129] (Or.inl rfl) dX11_picked_3 rfl rm_11_149 mtE171 rfl rfl rfl (Nat.le_of_ble_eq_true rfl) (Or.inr ⟨_, _, 129, rfl, Or.inl rfl⟩) k2 rfl ?_
  obtain ⟨j3, k4, h⟩ := bd h
  have k4J : Go none (Ev (d + 2)) mt228 18 [some (pvR 11 0 129), some (pvI x1), some (pvI x2)] [pvI j3, pvR 11 0 129] (true, n, e, σ) (0, some (pvI r.1), true, n, e, r.2) := by
    obtain ⟨v6, k7, h⟩ := bd h
    have k7 := l_M_holds (d + 1) n e σ j3 _ k7
    refine go_call (kc := 174) (Mc := mt174) (v := some (pvI v6.1)) (w' := (true, n, e, v6.2)) (pc' := 21) (st' := [pvI v6.1]) [pvR 11 0 129, pvI j3] [] (Or.inl rfl) dX11_picked_18 rfl rm_11_185 mtE174 rfl rfl rfl (Nat.le_of_ble_eq_true rfl) (Or.inr ⟨_, _, 129, rfl, Or.inl rfl⟩) k7 rfl ?_
    refine go_if_eq (t := 26) (pc' := 24) dX11_picked_21 rfl rfl (fun c15 => ?_) (fun c15 => ?_)
    · rw [if_pos (show v6.1 = 0 from c15)] at h
      refine go_iload_n (pc' := 27) dX11_picked_26 rfl rfl ?_
      refine go_aload_n (pc' := 28) dX11_picked_27 rfl rfl (Nat.le_of_ble_eq_true rfl) ?_
      refine go_getR (k' := 12) (L0 := 3) (P' := 165) (pc' := 31) dX11_picked_28 rfl rf_11_125 rfl rfl (by omega) ?_
      refine go_iload_n (pc' := 32) dX11_picked_31 rfl rfl ?_
      obtain ⟨g8, h⟩ := gd h
      refine go_iald (pc' := 33) dX11_picked_32 rfl g8 ?_
      obtain ⟨j9, k10, h⟩ := bd h
      have k10J : Go none (Ev (d + 2)) mt228 51 [some (pvR 11 0 129), some (pvI x1), some (pvI x2)] [pvI j9] (true, n, e, v6.2) (0, some (pvI r.1), true, n, e, r.2) := by
        cases h
        exact go_iret dX11_picked_51 rfl rfl
      clear h
      have h := k10
      refine go_icmp_ge (t := 50) (pc' := 36) dX11_picked_33 rfl rfl (fun c14 => ?_) (fun c14 => ?_)
      · rw [if_pos (show (v6.2 165 x1) ≤ x2 from c14)] at h
        refine go_iconst (pc' := 51) dX11_picked_50 rfl (r32_c rfl) ?_
        cases h
        exact k10J
      · rw [if_neg (show ¬ ((v6.2 165 x1) ≤ x2) from c14)] at h
        refine go_aload_n (pc' := 37) dX11_picked_36 rfl rfl (Nat.le_of_ble_eq_true rfl) ?_
        refine go_getR (k' := 12) (L0 := 36) (P' := 164) (pc' := 40) dX11_picked_37 rfl rf_11_122 rfl rfl (by omega) ?_
        refine go_bipush (pc' := 42) dX11_picked_40 rfl (r32_c rfl) (by decide) ?_
        refine go_iload_n (pc' := 43) dX11_picked_42 rfl rfl ?_
        obtain ⟨g11, h⟩ := gd h
        refine go_imul (pc' := 44) dX11_picked_43 rfl g11 ?_
        refine go_iload_n (pc' := 45) dX11_picked_44 rfl rfl ?_
        obtain ⟨g12, h⟩ := gd h
        refine go_iadd (pc' := 46) dX11_picked_45 rfl g12 ?_
        obtain ⟨g13, h⟩ := gd h
        refine go_iald (pc' := 47) dX11_picked_46 rfl g13 ?_
        refine go_goto (t := 51) dX11_picked_47 rfl ?_
        cases h
        exact k10J
    · rw [if_neg (show ¬ (v6.1 = 0) from c15)] at h
      refine go_iconst (pc' := 25) dX11_picked_24 rfl (r32_c rfl) ?_
      cases h
      exact go_iret dX11_picked_25 rfl rfl
  clear h
  have h := k4
  refine go_if_eq (t := 17) (pc' := 9) dX11_picked_6 rfl rfl (fun c16 => ?_) (fun c16 => ?_)
  · rw [if_pos (show v1 = 0 from c16)] at h
    refine go_iconst (pc' := 18) dX11_picked_17 rfl (r32_c rfl) ?_
    cases h
    exact k4J
  · rw [if_neg (show ¬ (v1 = 0) from c16)] at h
    refine go_iload_n (pc' := 10) dX11_picked_9 rfl rfl ?_
    refine go_if_lt (t := 17) (pc' := 13) dX11_picked_10 rfl rfl (fun c5 => ?_) (fun c5 => ?_)
    · rw [if_pos (show x2 < 0 from c5)] at h
      refine go_iconst (pc' := 18) dX11_picked_17 rfl (r32_c rfl) ?_
      cases h
      exact k4J
    · rw [if_neg (show ¬ (x2 < 0) from c5)] at h
      refine go_iconst (pc' := 14) dX11_picked_13 rfl (r32_c rfl) ?_
      refine go_goto (t := 18) dX11_picked_14 rfl ?_
      cases h
      exact k4J

set_option maxRecDepth 10000 in
theorem l_M_cross_79 (d : Nat) (n : Nat) (e : Nat) (x1 : Int) (x2 : Int) (x3 : Int) (j3 : Int) (y17 : Int) {out : Out} : ∀ (F : Nat) (y20 : Int) (y21 : Int) (σ22 : Hp) (j53 : Int × Int × Hp), f_M_cross_79 x1 x2 x3 y17 F y20 y21 σ22 = some j53 → Go none (Ev (d + 281)) mt229 234 [some (pvR 11 0 129), some (pvI x1), some (pvI x2), some (pvI x3), some (pvI j3), some (pvI j53.1), some (pvI y17), some (pvI j53.2.1), none, none, none, none, none] [] (true, n, e, j53.2.2) out → Go none (Ev (d + 281)) mt229 79 [some (pvR 11 0 129), some (pvI x1), some (pvI x2), some (pvI x3), some (pvI j3), some (pvI y20), some (pvI y17), some (pvI y21), none, none, none, none, none] [] (true, n, e, σ22) out := by
  intro F
  induction F with
  | zero =>
    intro _ _ _ _ h
    intro _
    rw [f_M_cross_79] at h
    cases h
  | succ F ih =>
    intro y20 y21 σ22 j53 h hx
    rw [f_M_cross_79] at h
    refine go_iload (pc' := 81) dX11_cross_79 rfl rfl ?_
    refine go_aload_n (pc' := 82) dX11_cross_81 rfl rfl (Nat.le_of_ble_eq_true rfl) ?_
    refine go_getR (k' := 12) (L0 := 3) (P' := 165) (pc' := 85) dX11_cross_82 rfl rf_11_125 rfl rfl (by omega) ?_
    refine go_iload_n (pc' := 86) dX11_cross_85 rfl rfl ?_
    obtain ⟨g23, h⟩ := gd h
    refine go_iald (pc' := 87) dX11_cross_86 rfl g23 ?_
    refine go_icmp_ge (t := 234) (pc' := 90) dX11_cross_87 rfl rfl (fun c52 => ?_) (fun c52 => ?_)
    · rw [if_pos (show (σ22 165 x2) ≤ y21 from c52)] at h
      cases h
      exact hx
    · rw [if_neg (show ¬ ((σ22 165 x2) ≤ y21) from c52)] at h
      refine go_aload_n (pc' := 91) dX11_cross_90 rfl rfl (Nat.le_of_ble_eq_true rfl) ?_
      refine go_getR (k' := 12) (L0 := 36) (P' := 164) (pc' := 94) dX11_cross_91 rfl rf_11_122 rfl rfl (by omega) ?_
      refine go_bipush (pc' := 96) dX11_cross_94 rfl (r32_c rfl) (by decide) ?_
      refine go_iload_n (pc' := 97) dX11_cross_96 rfl rfl ?_
      obtain ⟨g24, h⟩ := gd h
      refine go_imul (pc' := 98) dX11_cross_97 rfl g24 ?_
      refine go_iload (pc' := 100) dX11_cross_98 rfl rfl ?_
      obtain ⟨g25, h⟩ := gd h
      refine go_iadd (pc' := 101) dX11_cross_100 rfl g25 ?_
      obtain ⟨g26, h⟩ := gd h
      refine go_iald (pc' := 102) dX11_cross_101 rfl g26 ?_
      refine go_istore (L' := [some (pvR 11 0 129), some (pvI x1), some (pvI x2), some (pvI x3), some (pvI j3), some (pvI y20), some (pvI y17), some (pvI y21), some (pvI (σ22 164 ((12 * x1) + y17))), none, none, none, none]) (pc' := 104) dX11_cross_102 rfl (Nat.le_of_ble_eq_true rfl) rfl ?_
      refine go_aload_n (pc' := 105) dX11_cross_104 rfl rfl (Nat.le_of_ble_eq_true rfl) ?_
      refine go_getR (k' := 12) (L0 := 36) (P' := 164) (pc' := 108) dX11_cross_105 rfl rf_11_122 rfl rfl (by omega) ?_
      refine go_bipush (pc' := 110) dX11_cross_108 rfl (r32_c rfl) (by decide) ?_
      refine go_iload_n (pc' := 111) dX11_cross_110 rfl rfl ?_
      obtain ⟨g27, h⟩ := gd h
      refine go_imul (pc' := 112) dX11_cross_111 rfl g27 ?_
      refine go_iload (pc' := 114) dX11_cross_112 rfl rfl ?_
      obtain ⟨g28, h⟩ := gd h
      refine go_iadd (pc' := 115) dX11_cross_114 rfl g28 ?_
      obtain ⟨g29, h⟩ := gd h
      refine go_iald (pc' := 116) dX11_cross_115 rfl g29 ?_
      refine go_istore (L' := [some (pvR 11 0 129), some (pvI x1), some (pvI x2), some (pvI x3), some (pvI j3), some (pvI y20), some (pvI y17), some (pvI y21), some (pvI (σ22 164 ((12 * x1) + y17))), some (pvI (σ22 164 ((12 * x2) + y21))), none, none, none]) (pc' := 118) dX11_cross_116 rfl (Nat.le_of_ble_eq_true rfl) rfl ?_
      refine go_iload_n (pc' := 119) dX11_cross_118 rfl rfl ?_
      obtain ⟨j30, k31, h⟩ := bd h
      have k31J : Go none (Ev (d + 281)) mt229 142 [some (pvR 11 0 129), some (pvI x1), some (pvI x2), some (pvI x3), some (pvI j3), some (pvI y20), some (pvI y17), some (pvI y21), some (pvI (σ22 164 ((12 * x1) + y17))), some (pvI (σ22 164 ((12 * x2) + y21))), none, none, none] [pvI j30] (true, n, e, σ22) out := by
        refine go_istore (L' := [some (pvR 11 0 129), some (pvI x1), some (pvI x2), some (pvI x3), some (pvI j3), some (pvI y20), some (pvI y17), some (pvI y21), some (pvI (σ22 164 ((12 * x1) + y17))), some (pvI (σ22 164 ((12 * x2) + y21))), some (pvI j30), none, none]) (pc' := 144) dX11_cross_142 rfl (Nat.le_of_ble_eq_true rfl) rfl ?_
        refine go_iload_n (pc' := 145) dX11_cross_144 rfl rfl ?_
        refine go_iconst (pc' := 146) dX11_cross_145 rfl (r32_c rfl) ?_
        obtain ⟨j34, k35, h⟩ := bd h
        have k35J : Go none (Ev (d + 281)) mt229 170 [some (pvR 11 0 129), some (pvI x1), some (pvI x2), some (pvI x3), some (pvI j3), some (pvI y20), some (pvI y17), some (pvI y21), some (pvI (σ22 164 ((12 * x1) + y17))), some (pvI (σ22 164 ((12 * x2) + y21))), some (pvI j30), none, none] [pvI j34] (true, n, e, σ22) out := by
          refine go_istore (L' := [some (pvR 11 0 129), some (pvI x1), some (pvI x2), some (pvI x3), some (pvI j3), some (pvI y20), some (pvI y17), some (pvI y21), some (pvI (σ22 164 ((12 * x1) + y17))), some (pvI (σ22 164 ((12 * x2) + y21))), some (pvI j30), some (pvI j34), none]) (pc' := 172) dX11_cross_170 rfl (Nat.le_of_ble_eq_true rfl) rfl ?_
          refine go_iload_n (pc' := 173) dX11_cross_172 rfl rfl ?_
          refine go_iconst (pc' := 174) dX11_cross_173 rfl (r32_c rfl) ?_
          obtain ⟨j38, k39, h⟩ := bd h
          have k39J : Go none (Ev (d + 281)) mt229 198 [some (pvR 11 0 129), some (pvI x1), some (pvI x2), some (pvI x3), some (pvI j3), some (pvI y20), some (pvI y17), some (pvI y21), some (pvI (σ22 164 ((12 * x1) + y17))), some (pvI (σ22 164 ((12 * x2) + y21))), some (pvI j30), some (pvI j34), none] [pvI j38] (true, n, e, σ22) out := by
            refine go_istore (L' := [some (pvR 11 0 129), some (pvI x1), some (pvI x2), some (pvI x3), some (pvI j3), some (pvI y20), some (pvI y17), some (pvI y21), some (pvI (σ22 164 ((12 * x1) + y17))), some (pvI (σ22 164 ((12 * x2) + y21))), some (pvI j30), some (pvI j34), some (pvI j38)]) (pc' := 200) dX11_cross_198 rfl (Nat.le_of_ble_eq_true rfl) rfl ?_
            refine go_iload (pc' := 202) dX11_cross_200 rfl rfl ?_
            refine go_aload_n (pc' := 203) dX11_cross_202 rfl rfl (Nat.le_of_ble_eq_true rfl) ?_
            refine go_iload (pc' := 205) dX11_cross_203 rfl rfl ?_
            refine go_iload (pc' := 207) dX11_cross_205 rfl rfl ?_
            refine go_iload (pc' := 209) dX11_cross_207 rfl rfl ?_
            refine go_iload_n (pc' := 210) dX11_cross_209 rfl rfl ?_
            obtain ⟨v42, k43, h⟩ := bd h
            have k43 := l_M_ask (d + 0) n e σ22 j30 j34 j38 x3 _ k43
            refine go_call (kc := 220) (Mc := mt220) (v := some (pvL v42.1)) (w' := (true, n, e, v42.2)) (pc' := 213) (st' := [pvL v42.1, pvI y20]) [pvR 11 0 129, pvI j30, pvI j34, pvI j38, pvI x3] [pvI y20] (Or.inl rfl) dX11_cross_210 rfl rm_11_324 mtE220 rfl rfl rfl (Nat.le_of_ble_eq_true rfl) (Or.inr ⟨_, _, 129, rfl, Or.inl rfl⟩) k43 rfl ?_
            refine go_ldc2 (pc' := 216) dX11_cross_213 rfl (r64_c rfl) rc_11_262 ?_
            refine go_lcmp (pc' := 217) dX11_cross_216 rfl ?_
            obtain ⟨j44, k45, h⟩ := bd h
            have k45J : Go none (Ev (d + 281)) mt229 225 [some (pvR 11 0 129), some (pvI x1), some (pvI x2), some (pvI x3), some (pvI j3), some (pvI y20), some (pvI y17), some (pvI y21), some (pvI (σ22 164 ((12 * x1) + y17))), some (pvI (σ22 164 ((12 * x2) + y21))), some (pvI j30), some (pvI j34), some (pvI j38)] [pvI j44, pvI y20] (true, n, e, v42.2) out := by
              obtain ⟨g46, h⟩ := gd h
              refine go_iadd (pc' := 226) dX11_cross_225 rfl g46 ?_
              refine go_istore (L' := [some (pvR 11 0 129), some (pvI x1), some (pvI x2), some (pvI x3), some (pvI j3), some (pvI (y20 + j44)), some (pvI y17), some (pvI y21), some (pvI (σ22 164 ((12 * x1) + y17))), some (pvI (σ22 164 ((12 * x2) + y21))), some (pvI j30), some (pvI j34), some (pvI j38)]) (pc' := 228) dX11_cross_226 rfl (Nat.le_of_ble_eq_true rfl) rfl ?_
              obtain ⟨g47, h⟩ := gd h
              refine go_iinc (L' := [some (pvR 11 0 129), some (pvI x1), some (pvI x2), some (pvI x3), some (pvI j3), some (pvI (y20 + j44)), some (pvI y17), some (pvI (y21 + 1)), some (pvI (σ22 164 ((12 * x1) + y17))), some (pvI (σ22 164 ((12 * x2) + y21))), some (pvI j30), some (pvI j34), some (pvI j38)]) (pc' := 231) dX11_cross_228 rfl rfl g47 rfl ?_
              refine go_goto (t := 79) dX11_cross_231 rfl ?_
              exact go_sub (ih (y20 + j44) (y21 + 1) v42.2 _ h hx) ⟨Or.inr rfl, Or.inr rfl, Or.inr rfl, Or.inr rfl, Or.inr rfl, Or.inr rfl, Or.inr rfl, Or.inr rfl, Or.inl rfl, Or.inl rfl, Or.inl rfl, Or.inl rfl, Or.inl rfl, trivial⟩
            clear h
            have h := k45
            refine go_if_eq (t := 224) (pc' := 220) dX11_cross_217 rfl rfl (fun c48 => ?_) (fun c48 => ?_)
            · rw [if_pos (show (lcm v42.1 (-9223372036854775808)) = 0 from c48)] at h
              refine go_iconst (pc' := 225) dX11_cross_224 rfl (r32_c rfl) ?_
              cases h
              exact k45J
            · rw [if_neg (show ¬ ((lcm v42.1 (-9223372036854775808)) = 0) from c48)] at h
              refine go_iconst (pc' := 221) dX11_cross_220 rfl (r32_c rfl) ?_
              refine go_goto (t := 225) dX11_cross_221 rfl ?_
              cases h
              exact k45J
          clear h
          have h := k39
          refine go_icmp_ne (t := 182) (pc' := 177) dX11_cross_174 rfl rfl (fun c49 => ?_) (fun c49 => ?_)
          · rw [if_pos (show x1 ≠ 2 from c49)] at h
            refine go_iload_n (pc' := 183) dX11_cross_182 rfl rfl ?_
            refine go_iconst (pc' := 184) dX11_cross_183 rfl (r32_c rfl) ?_
            refine go_icmp_ne (t := 192) (pc' := 187) dX11_cross_184 rfl rfl (fun c41 => ?_) (fun c41 => ?_)
            · rw [if_pos (show x2 ≠ 2 from c41)] at h
              refine go_aload_n (pc' := 193) dX11_cross_192 rfl rfl (Nat.le_of_ble_eq_true rfl) ?_
              refine go_getR (k' := 12) (L0 := 3) (P' := 163) (pc' := 196) dX11_cross_193 rfl rf_11_119 rfl rfl (by omega) ?_
              refine go_iconst (pc' := 197) dX11_cross_196 rfl (r32_c rfl) ?_
              obtain ⟨g40, h⟩ := gd h
              refine go_iald (pc' := 198) dX11_cross_197 rfl g40 ?_
              cases h
              exact k39J
            · rw [if_neg (show ¬ (x2 ≠ 2) from c41)] at h
              refine go_iload (pc' := 189) dX11_cross_187 rfl rfl ?_
              refine go_goto (t := 198) dX11_cross_189 rfl ?_
              cases h
              exact k39J
          · rw [if_neg (show ¬ (x1 ≠ 2) from c49)] at h
            refine go_iload (pc' := 179) dX11_cross_177 rfl rfl ?_
            refine go_goto (t := 198) dX11_cross_179 rfl ?_
            cases h
            exact k39J
        clear h
        have h := k35
        refine go_icmp_ne (t := 154) (pc' := 149) dX11_cross_146 rfl rfl (fun c50 => ?_) (fun c50 => ?_)
        · rw [if_pos (show x1 ≠ 1 from c50)] at h
          refine go_iload_n (pc' := 155) dX11_cross_154 rfl rfl ?_
          refine go_iconst (pc' := 156) dX11_cross_155 rfl (r32_c rfl) ?_
          refine go_icmp_ne (t := 164) (pc' := 159) dX11_cross_156 rfl rfl (fun c37 => ?_) (fun c37 => ?_)
          · rw [if_pos (show x2 ≠ 1 from c37)] at h
            refine go_aload_n (pc' := 165) dX11_cross_164 rfl rfl (Nat.le_of_ble_eq_true rfl) ?_
            refine go_getR (k' := 12) (L0 := 3) (P' := 163) (pc' := 168) dX11_cross_165 rfl rf_11_119 rfl rfl (by omega) ?_
            refine go_iconst (pc' := 169) dX11_cross_168 rfl (r32_c rfl) ?_
            obtain ⟨g36, h⟩ := gd h
            refine go_iald (pc' := 170) dX11_cross_169 rfl g36 ?_
            cases h
            exact k35J
          · rw [if_neg (show ¬ (x2 ≠ 1) from c37)] at h
            refine go_iload (pc' := 161) dX11_cross_159 rfl rfl ?_
            refine go_goto (t := 170) dX11_cross_161 rfl ?_
            cases h
            exact k35J
        · rw [if_neg (show ¬ (x1 ≠ 1) from c50)] at h
          refine go_iload (pc' := 151) dX11_cross_149 rfl rfl ?_
          refine go_goto (t := 170) dX11_cross_151 rfl ?_
          cases h
          exact k35J
      clear h
      have h := k31
      refine go_if_ne (t := 127) (pc' := 122) dX11_cross_119 rfl rfl (fun c51 => ?_) (fun c51 => ?_)
      · rw [if_pos (show x1 ≠ 0 from c51)] at h
        refine go_iload_n (pc' := 128) dX11_cross_127 rfl rfl ?_
        refine go_if_ne (t := 136) (pc' := 131) dX11_cross_128 rfl rfl (fun c33 => ?_) (fun c33 => ?_)
        · rw [if_pos (show x2 ≠ 0 from c33)] at h
          refine go_aload_n (pc' := 137) dX11_cross_136 rfl rfl (Nat.le_of_ble_eq_true rfl) ?_
          refine go_getR (k' := 12) (L0 := 3) (P' := 163) (pc' := 140) dX11_cross_137 rfl rf_11_119 rfl rfl (by omega) ?_
          refine go_iconst (pc' := 141) dX11_cross_140 rfl (r32_c rfl) ?_
          obtain ⟨g32, h⟩ := gd h
          refine go_iald (pc' := 142) dX11_cross_141 rfl g32 ?_
          cases h
          exact k31J
        · rw [if_neg (show ¬ (x2 ≠ 0) from c33)] at h
          refine go_iload (pc' := 133) dX11_cross_131 rfl rfl ?_
          refine go_goto (t := 142) dX11_cross_133 rfl ?_
          cases h
          exact k31J
      · rw [if_neg (show ¬ (x1 ≠ 0) from c51)] at h
        refine go_iload (pc' := 124) dX11_cross_122 rfl rfl ?_
        refine go_goto (t := 142) dX11_cross_124 rfl ?_
        cases h
        exact k31J

set_option maxRecDepth 10000 in
theorem l_M_cross_65 (d : Nat) (n : Nat) (e : Nat) (x1 : Int) (x2 : Int) (x3 : Int) (j3 : Int) {out : Out} : ∀ (F : Nat) (y16 : Int) (y17 : Int) (σ18 : Hp) (j58 : Int × Int × Hp), f_M_cross_65 x1 x2 x3 F y16 y17 σ18 = some j58 → Go none (Ev (d + 281)) mt229 240 [some (pvR 11 0 129), some (pvI x1), some (pvI x2), some (pvI x3), some (pvI j3), some (pvI j58.1), some (pvI j58.2.1), none, none, none, none, none, none] [] (true, n, e, j58.2.2) out → Go none (Ev (d + 281)) mt229 65 [some (pvR 11 0 129), some (pvI x1), some (pvI x2), some (pvI x3), some (pvI j3), some (pvI y16), some (pvI y17), none, none, none, none, none, none] [] (true, n, e, σ18) out := by
  intro F
  induction F with
  | zero =>
    intro _ _ _ _ h
    intro _
    rw [f_M_cross_65] at h
    cases h
  | succ F ih =>
    intro y16 y17 σ18 j58 h hx
    rw [f_M_cross_65] at h
    refine go_iload (pc' := 67) dX11_cross_65 rfl rfl ?_
    refine go_aload_n (pc' := 68) dX11_cross_67 rfl rfl (Nat.le_of_ble_eq_true rfl) ?_
    refine go_getR (k' := 12) (L0 := 3) (P' := 165) (pc' := 71) dX11_cross_68 rfl rf_11_125 rfl rfl (by omega) ?_
    refine go_iload_n (pc' := 72) dX11_cross_71 rfl rfl ?_
    obtain ⟨g19, h⟩ := gd h
    refine go_iald (pc' := 73) dX11_cross_72 rfl g19 ?_
    refine go_icmp_ge (t := 240) (pc' := 76) dX11_cross_73 rfl rfl (fun c57 => ?_) (fun c57 => ?_)
    · rw [if_pos (show (σ18 165 x1) ≤ y17 from c57)] at h
      cases h
      exact hx
    · rw [if_neg (show ¬ ((σ18 165 x1) ≤ y17) from c57)] at h
      refine go_iconst (pc' := 77) dX11_cross_76 rfl (r32_c rfl) ?_
      refine go_istore (L' := [some (pvR 11 0 129), some (pvI x1), some (pvI x2), some (pvI x3), some (pvI j3), some (pvI y16), some (pvI y17), some (pvI 0), none, none, none, none, none]) (pc' := 79) dX11_cross_77 rfl (Nat.le_of_ble_eq_true rfl) rfl ?_
      obtain ⟨j54, k55, h⟩ := bd h
      refine l_M_cross_79 d n e x1 x2 x3 j3 y17 zFuel y16 0 σ18 _ k55 ?_
      obtain ⟨g56, h⟩ := gd h
      refine go_iinc (L' := [some (pvR 11 0 129), some (pvI x1), some (pvI x2), some (pvI x3), some (pvI j3), some (pvI j54.1), some (pvI (y17 + 1)), some (pvI j54.2.1), none, none, none, none, none]) (pc' := 237) dX11_cross_234 rfl rfl g56 rfl ?_
      refine go_goto (t := 65) dX11_cross_237 rfl ?_
      exact go_sub (ih j54.1 (y17 + 1) j54.2.2 _ h hx) ⟨Or.inr rfl, Or.inr rfl, Or.inr rfl, Or.inr rfl, Or.inr rfl, Or.inr rfl, Or.inr rfl, Or.inl rfl, Or.inr rfl, Or.inr rfl, Or.inr rfl, Or.inr rfl, Or.inr rfl, trivial⟩

set_option maxRecDepth 10000 in
theorem l_M_cross (d : Nat) (n e : Nat) (σ : Hp) (x1 : Int) (x2 : Int) (x3 : Int) (r : Int × Hp) (h : f_M_cross σ x1 x2 x3 = some r) : Ev (d + 282) 229 [pvR 11 0 129, pvI x1, pvI x2, pvI x3] (true, n, e, σ) (0, some (pvI r.1), true, n, e, r.2) := by
  unfold f_M_cross at h
  refine Ev.of mtE229 rfl rfl rfl rfl ?_
  show Go none (Ev (d + 281)) mt229 0 [some (pvR 11 0 129), some (pvI x1), some (pvI x2), some (pvI x3), none, none, none, none, none, none, none, none, none] [] (true, n, e, σ) (0, some (pvI r.1), true, n, e, r.2)
  refine go_aload_n (pc' := 1) dX11_cross_0 rfl rfl (Nat.le_of_ble_eq_true rfl) ?_
  refine go_iload_n (pc' := 2) dX11_cross_1 rfl rfl ?_
  obtain ⟨v1, k2, h⟩ := bd h
  have k2 := l_M_isDim (d + 279) n e σ x1 _ k2
  refine go_call (kc := 171) (Mc := mt171) (v := some (pvI v1)) (w' := (true, n, e, σ)) (pc' := 5) (st' := [pvI v1]) [pvR 11 0 129, pvI x1] [] (Or.inl rfl) dX11_cross_2 rfl rm_11_149 mtE171 rfl rfl rfl (Nat.le_of_ble_eq_true rfl) (Or.inr ⟨_, _, 129, rfl, Or.inl rfl⟩) k2 rfl ?_
  obtain ⟨j3, k4, h⟩ := bd h
  have k4J : Go none (Ev (d + 281)) mt229 29 [some (pvR 11 0 129), some (pvI x1), some (pvI x2), some (pvI x3), none, none, none, none, none, none, none, none, none] [pvI j3] (true, n, e, σ) (0, some (pvI r.1), true, n, e, r.2) := by
    refine go_istore (L' := [some (pvR 11 0 129), some (pvI x1), some (pvI x2), some (pvI x3), some (pvI j3), none, none, none, none, none, none, none, none]) (pc' := 31) dX11_cross_29 rfl (Nat.le_of_ble_eq_true rfl) rfl ?_
    refine go_aload_n (pc' := 32) dX11_cross_31 rfl rfl (Nat.le_of_ble_eq_true rfl) ?_
    refine go_iload (pc' := 34) dX11_cross_32 rfl rfl ?_
    obtain ⟨j11, k12, h⟩ := bd h
    have k12J : Go none (Ev (d + 281)) mt229 51 [some (pvR 11 0 129), some (pvI x1), some (pvI x2), some (pvI x3), some (pvI j3), none, none, none, none, none, none, none, none] [pvI j11, pvR 11 0 129] (true, n, e, σ) (0, some (pvI r.1), true, n, e, r.2) := by
      obtain ⟨v14, k15, h⟩ := bd h
      have k15 := l_M_holds (d + 280) n e σ j11 _ k15
      refine go_call (kc := 174) (Mc := mt174) (v := some (pvI v14.1)) (w' := (true, n, e, v14.2)) (pc' := 54) (st' := [pvI v14.1]) [pvR 11 0 129, pvI j11] [] (Or.inl rfl) dX11_cross_51 rfl rm_11_185 mtE174 rfl rfl rfl (Nat.le_of_ble_eq_true rfl) (Or.inr ⟨_, _, 129, rfl, Or.inl rfl⟩) k15 rfl ?_
      refine go_if_eq (t := 59) (pc' := 57) dX11_cross_54 rfl rfl (fun c61 => ?_) (fun c61 => ?_)
      · rw [if_pos (show v14.1 = 0 from c61)] at h
        refine go_iconst (pc' := 60) dX11_cross_59 rfl (r32_c rfl) ?_
        refine go_istore (L' := [some (pvR 11 0 129), some (pvI x1), some (pvI x2), some (pvI x3), some (pvI j3), some (pvI 0), none, none, none, none, none, none, none]) (pc' := 62) dX11_cross_60 rfl (Nat.le_of_ble_eq_true rfl) rfl ?_
        refine go_iconst (pc' := 63) dX11_cross_62 rfl (r32_c rfl) ?_
        refine go_istore (L' := [some (pvR 11 0 129), some (pvI x1), some (pvI x2), some (pvI x3), some (pvI j3), some (pvI 0), some (pvI 0), none, none, none, none, none, none]) (pc' := 65) dX11_cross_63 rfl (Nat.le_of_ble_eq_true rfl) rfl ?_
        obtain ⟨j59, k60, h⟩ := bd h
        refine l_M_cross_65 d n e x1 x2 x3 j3 zFuel 0 0 v14.2 _ k60 ?_
        refine go_iload (pc' := 242) dX11_cross_240 rfl rfl ?_
        cases h
        exact go_iret dX11_cross_242 rfl rfl
      · rw [if_neg (show ¬ (v14.1 = 0) from c61)] at h
        refine go_iconst (pc' := 58) dX11_cross_57 rfl (r32_c rfl) ?_
        cases h
        exact go_iret dX11_cross_58 rfl rfl
    clear h
    have h := k12
    refine go_if_ne (t := 41) (pc' := 37) dX11_cross_34 rfl rfl (fun c62 => ?_) (fun c62 => ?_)
    · rw [if_pos (show j3 ≠ 0 from c62)] at h
      refine go_iload_n (pc' := 42) dX11_cross_41 rfl rfl ?_
      refine go_iload_n (pc' := 43) dX11_cross_42 rfl rfl ?_
      refine go_icmp_ne (t := 50) (pc' := 46) dX11_cross_43 rfl rfl (fun c13 => ?_) (fun c13 => ?_)
      · rw [if_pos (show x1 ≠ x2 from c13)] at h
        refine go_iconst (pc' := 51) dX11_cross_50 rfl (r32_c rfl) ?_
        cases h
        exact k12J
      · rw [if_neg (show ¬ (x1 ≠ x2) from c13)] at h
        refine go_iconst (pc' := 47) dX11_cross_46 rfl (r32_c rfl) ?_
        refine go_goto (t := 51) dX11_cross_47 rfl ?_
        cases h
        exact k12J
    · rw [if_neg (show ¬ (j3 ≠ 0) from c62)] at h
      refine go_iconst (pc' := 38) dX11_cross_37 rfl (r32_c rfl) ?_
      refine go_goto (t := 51) dX11_cross_38 rfl ?_
      cases h
      exact k12J
  clear h
  have h := k4
  refine go_if_eq (t := 28) (pc' := 8) dX11_cross_5 rfl rfl (fun c63 => ?_) (fun c63 => ?_)
  · rw [if_pos (show v1 = 0 from c63)] at h
    refine go_iconst (pc' := 29) dX11_cross_28 rfl (r32_c rfl) ?_
    cases h
    exact k4J
  · rw [if_neg (show ¬ (v1 = 0) from c63)] at h
    refine go_aload_n (pc' := 9) dX11_cross_8 rfl rfl (Nat.le_of_ble_eq_true rfl) ?_
    refine go_iload_n (pc' := 10) dX11_cross_9 rfl rfl ?_
    obtain ⟨v5, k6, h⟩ := bd h
    have k6 := l_M_isDim (d + 279) n e σ x2 _ k6
    refine go_call (kc := 171) (Mc := mt171) (v := some (pvI v5)) (w' := (true, n, e, σ)) (pc' := 13) (st' := [pvI v5]) [pvR 11 0 129, pvI x2] [] (Or.inl rfl) dX11_cross_10 rfl rm_11_149 mtE171 rfl rfl rfl (Nat.le_of_ble_eq_true rfl) (Or.inr ⟨_, _, 129, rfl, Or.inl rfl⟩) k6 rfl ?_
    refine go_if_eq (t := 28) (pc' := 16) dX11_cross_13 rfl rfl (fun c10 => ?_) (fun c10 => ?_)
    · rw [if_pos (show v5 = 0 from c10)] at h
      refine go_iconst (pc' := 29) dX11_cross_28 rfl (r32_c rfl) ?_
      cases h
      exact k4J
    · rw [if_neg (show ¬ (v5 = 0) from c10)] at h
      refine go_aload_n (pc' := 17) dX11_cross_16 rfl rfl (Nat.le_of_ble_eq_true rfl) ?_
      refine go_iload_n (pc' := 18) dX11_cross_17 rfl rfl ?_
      obtain ⟨v7, k8, h⟩ := bd h
      have k8 := l_M_isMeasure (d + 279) n e σ x3 _ k8
      refine go_call (kc := 193) (Mc := mt193) (v := some (pvI v7)) (w' := (true, n, e, σ)) (pc' := 21) (st' := [pvI v7]) [pvR 11 0 129, pvI x3] [] (Or.inl rfl) dX11_cross_18 rfl rm_11_160 mtE193 rfl rfl rfl (Nat.le_of_ble_eq_true rfl) (Or.inr ⟨_, _, 129, rfl, Or.inl rfl⟩) k8 rfl ?_
      refine go_if_eq (t := 28) (pc' := 24) dX11_cross_21 rfl rfl (fun c9 => ?_) (fun c9 => ?_)
      · rw [if_pos (show v7 = 0 from c9)] at h
        refine go_iconst (pc' := 29) dX11_cross_28 rfl (r32_c rfl) ?_
        cases h
        exact k4J
      · rw [if_neg (show ¬ (v7 = 0) from c9)] at h
        refine go_iconst (pc' := 25) dX11_cross_24 rfl (r32_c rfl) ?_
        refine go_goto (t := 29) dX11_cross_25 rfl ?_
        cases h
        exact k4J

set_option maxRecDepth 10000 in
theorem l_M_spots_9 (d : Nat) (n : Nat) (e : Nat) (x1 : Int) (x2 : Int) (x3 : Int) (x4 : Int) {out : Out} : ∀ (F : Nat) (y1 : Int) (y2 : Int) (y3 : Int) (σ4 : Hp) (j22 : Int × Int × Int × Hp), f_M_spots_9 x1 x2 x3 x4 F y1 y2 y3 σ4 = some j22 → Go none (Ev (d + 4)) mt231 96 [some (pvR 11 0 129), some (pvI x1), some (pvI x2), some (pvI x3), some (pvI x4), some (pvI j22.1), some (pvI j22.2.1), some (pvI j22.2.2.1), none] [] (true, n, e, j22.2.2.2) out → Go none (Ev (d + 4)) mt231 9 [some (pvR 11 0 129), some (pvI x1), some (pvI x2), some (pvI x3), some (pvI x4), some (pvI y1), some (pvI y2), some (pvI y3), none] [] (true, n, e, σ4) out := by
  intro F
  induction F with
  | zero =>
    intro _ _ _ _ _ h
    intro _
    rw [f_M_spots_9] at h
    cases h
  | succ F ih =>
    intro y1 y2 y3 σ4 j22 h hx
    rw [f_M_spots_9] at h
    refine go_iload (pc' := 11) dX11_spots_9 rfl rfl ?_
    refine go_aload_n (pc' := 12) dX11_spots_11 rfl rfl (Nat.le_of_ble_eq_true rfl) ?_
    refine go_getI (pc' := 15) dX11_spots_12 rfl rf_11_230 rfl ?_
    refine go_icmp_ge (t := 96) (pc' := 18) dX11_spots_15 rfl rfl (fun c21 => ?_) (fun c21 => ?_)
    · rw [if_pos (show (σ4 129 29) ≤ y3 from c21)] at h
      cases h
      exact hx
    · rw [if_neg (show ¬ ((σ4 129 29) ≤ y3) from c21)] at h
      refine go_aload_n (pc' := 19) dX11_spots_18 rfl rfl (Nat.le_of_ble_eq_true rfl) ?_
      refine go_getR (k' := 12) (L0 := 51) (P' := 153) (pc' := 22) dX11_spots_19 rfl rf_11_81 rfl rfl (by omega) ?_
      refine go_iload (pc' := 24) dX11_spots_22 rfl rfl ?_
      obtain ⟨g5, h⟩ := gd h
      refine go_iald (pc' := 25) dX11_spots_24 rfl g5 ?_
      refine go_iload (pc' := 27) dX11_spots_25 rfl rfl ?_
      obtain ⟨j6, k7, h⟩ := bd h
      have k7J : Go none (Ev (d + 4)) mt231 43 [some (pvR 11 0 129), some (pvI x1), some (pvI x2), some (pvI x3), some (pvI x4), some (pvI y1), some (pvI y2), some (pvI y3), none] [pvI j6] (true, n, e, σ4) out := by
        refine go_istore (L' := [some (pvR 11 0 129), some (pvI x1), some (pvI x2), some (pvI x3), some (pvI x4), some (pvI y1), some (pvI y2), some (pvI y3), some (pvI j6)]) (pc' := 45) dX11_spots_43 rfl (Nat.le_of_ble_eq_true rfl) rfl ?_
        refine go_aload_n (pc' := 46) dX11_spots_45 rfl rfl (Nat.le_of_ble_eq_true rfl) ?_
        refine go_getR (k' := 12) (L0 := 51) (P' := 167) (pc' := 49) dX11_spots_46 rfl rf_11_131 rfl rfl (by omega) ?_
        refine go_iload (pc' := 51) dX11_spots_49 rfl rfl ?_
        refine go_iload (pc' := 53) dX11_spots_51 rfl rfl ?_
        obtain ⟨g10, h⟩ := gd h
        refine go_iast (pc' := 54) dX11_spots_53 rfl g10 ?_
        refine go_iload (pc' := 56) dX11_spots_54 rfl rfl ?_
        refine go_iload (pc' := 58) dX11_spots_56 rfl rfl ?_
        obtain ⟨j11, k12, h⟩ := bd h
        have k12J : Go none (Ev (d + 4)) mt231 66 [some (pvR 11 0 129), some (pvI x1), some (pvI x2), some (pvI x3), some (pvI x4), some (pvI y1), some (pvI y2), some (pvI y3), some (pvI j6)] [pvI j11, pvI y1] (true, n, e, (hset σ4 167 y1 y3)) out := by
          obtain ⟨g13, h⟩ := gd h
          refine go_iadd (pc' := 67) dX11_spots_66 rfl g13 ?_
          refine go_istore (L' := [some (pvR 11 0 129), some (pvI x1), some (pvI x2), some (pvI x3), some (pvI x4), some (pvI (y1 + j11)), some (pvI y2), some (pvI y3), some (pvI j6)]) (pc' := 69) dX11_spots_67 rfl (Nat.le_of_ble_eq_true rfl) rfl ?_
          refine go_iload (pc' := 71) dX11_spots_69 rfl rfl ?_
          refine go_iload (pc' := 73) dX11_spots_71 rfl rfl ?_
          obtain ⟨j14, k15, h⟩ := bd h
          have k15J : Go none (Ev (d + 4)) mt231 87 [some (pvR 11 0 129), some (pvI x1), some (pvI x2), some (pvI x3), some (pvI x4), some (pvI (y1 + j11)), some (pvI y2), some (pvI y3), some (pvI j6)] [pvI j14, pvI y2] (true, n, e, (hset σ4 167 y1 y3)) out := by
            refine go_iand (pc' := 88) dX11_spots_87 rfl ?_
            refine go_istore (L' := [some (pvR 11 0 129), some (pvI x1), some (pvI x2), some (pvI x3), some (pvI x4), some (pvI (y1 + j11)), some (pvI (iand y2 j14)), some (pvI y3), some (pvI j6)]) (pc' := 90) dX11_spots_88 rfl (Nat.le_of_ble_eq_true rfl) rfl ?_
            obtain ⟨g17, h⟩ := gd h
            refine go_iinc (L' := [some (pvR 11 0 129), some (pvI x1), some (pvI x2), some (pvI x3), some (pvI x4), some (pvI (y1 + j11)), some (pvI (iand y2 j14)), some (pvI (y3 + 1)), some (pvI j6)]) (pc' := 93) dX11_spots_90 rfl rfl g17 rfl ?_
            refine go_goto (t := 9) dX11_spots_93 rfl ?_
            exact go_sub (ih (y1 + j11) (iand y2 j14) (y3 + 1) (hset σ4 167 y1 y3) _ h hx) ⟨Or.inr rfl, Or.inr rfl, Or.inr rfl, Or.inr rfl, Or.inr rfl, Or.inr rfl, Or.inr rfl, Or.inr rfl, Or.inl rfl, trivial⟩
          clear h
          have h := k15
          refine go_if_eq (t := 82) (pc' := 76) dX11_spots_73 rfl rfl (fun c18 => ?_) (fun c18 => ?_)
          · rw [if_pos (show j6 = 0 from c18)] at h
            refine go_iconst (pc' := 83) dX11_spots_82 rfl (r32_c rfl) ?_
            refine go_goto (t := 87) dX11_spots_83 rfl ?_
            cases h
            exact k15J
          · rw [if_neg (show ¬ (j6 = 0) from c18)] at h
            refine go_iload (pc' := 78) dX11_spots_76 rfl rfl ?_
            refine go_iconst (pc' := 79) dX11_spots_78 rfl (r32_c rfl) ?_
            refine go_icmp_ne (t := 86) (pc' := 82) dX11_spots_79 rfl rfl (fun c16 => ?_) (fun c16 => ?_)
            · rw [if_pos (show j6 ≠ 1 from c16)] at h
              refine go_iconst (pc' := 87) dX11_spots_86 rfl (r32_c rfl) ?_
              cases h
              exact k15J
            · rw [if_neg (show ¬ (j6 ≠ 1) from c16)] at h
              refine go_iconst (pc' := 83) dX11_spots_82 rfl (r32_c rfl) ?_
              refine go_goto (t := 87) dX11_spots_83 rfl ?_
              cases h
              exact k15J
        clear h
        have h := k12
        refine go_if_eq (t := 65) (pc' := 61) dX11_spots_58 rfl rfl (fun c19 => ?_) (fun c19 => ?_)
        · rw [if_pos (show j6 = 0 from c19)] at h
          refine go_iconst (pc' := 66) dX11_spots_65 rfl (r32_c rfl) ?_
          cases h
          exact k12J
        · rw [if_neg (show ¬ (j6 = 0) from c19)] at h
          refine go_iconst (pc' := 62) dX11_spots_61 rfl (r32_c rfl) ?_
          refine go_goto (t := 66) dX11_spots_62 rfl ?_
          cases h
          exact k12J
      clear h
      have h := k7
      refine go_icmp_ne (t := 42) (pc' := 30) dX11_spots_27 rfl rfl (fun c20 => ?_) (fun c20 => ?_)
      · rw [if_pos (show (σ4 153 y3) ≠ x4 from c20)] at h
        refine go_iconst (pc' := 43) dX11_spots_42 rfl (r32_c rfl) ?_
        cases h
        exact k7J
      · rw [if_neg (show ¬ ((σ4 153 y3) ≠ x4) from c20)] at h
        refine go_aload_n (pc' := 31) dX11_spots_30 rfl rfl (Nat.le_of_ble_eq_true rfl) ?_
        refine go_iload (pc' := 33) dX11_spots_31 rfl rfl ?_
        refine go_iload_n (pc' := 34) dX11_spots_33 rfl rfl ?_
        refine go_iload_n (pc' := 35) dX11_spots_34 rfl rfl ?_
        refine go_iload_n (pc' := 36) dX11_spots_35 rfl rfl ?_
        obtain ⟨v8, k9, h⟩ := bd h
        have k9 := l_M_counts (d + 0) n e σ4 y3 x1 x2 x3 _ k9
        refine go_call (kc := 202) (Mc := mt202) (v := some (pvI v8)) (w' := (true, n, e, σ4)) (pc' := 39) (st' := [pvI v8]) [pvR 11 0 129, pvI y3, pvI x1, pvI x2, pvI x3] [] (Or.inl rfl) dX11_spots_36 rfl rm_11_259 mtE202 rfl rfl rfl (Nat.le_of_ble_eq_true rfl) (Or.inr ⟨_, _, 129, rfl, Or.inl rfl⟩) k9 rfl ?_
        refine go_goto (t := 43) dX11_spots_39 rfl ?_
        cases h
        exact k7J

set_option maxRecDepth 10000 in
theorem l_M_spots (d : Nat) (n e : Nat) (σ : Hp) (x1 : Int) (x2 : Int) (x3 : Int) (x4 : Int) (r : Int × Hp) (h : f_M_spots σ x1 x2 x3 x4 = some r) : Ev (d + 5) 231 [pvR 11 0 129, pvI x1, pvI x2, pvI x3, pvI x4] (true, n, e, σ) (0, some (pvI r.1), true, n, e, r.2) := by
  unfold f_M_spots at h
  refine Ev.of mtE231 rfl rfl rfl rfl ?_
  show Go none (Ev (d + 4)) mt231 0 [some (pvR 11 0 129), some (pvI x1), some (pvI x2), some (pvI x3), some (pvI x4), none, none, none, none] [] (true, n, e, σ) (0, some (pvI r.1), true, n, e, r.2)
  refine go_iconst (pc' := 1) dX11_spots_0 rfl (r32_c rfl) ?_
  refine go_istore (L' := [some (pvR 11 0 129), some (pvI x1), some (pvI x2), some (pvI x3), some (pvI x4), some (pvI 0), none, none, none]) (pc' := 3) dX11_spots_1 rfl (Nat.le_of_ble_eq_true rfl) rfl ?_
  refine go_iconst (pc' := 4) dX11_spots_3 rfl (r32_c rfl) ?_
  refine go_istore (L' := [some (pvR 11 0 129), some (pvI x1), some (pvI x2), some (pvI x3), some (pvI x4), some (pvI 0), some (pvI 1), none, none]) (pc' := 6) dX11_spots_4 rfl (Nat.le_of_ble_eq_true rfl) rfl ?_
  refine go_iconst (pc' := 7) dX11_spots_6 rfl (r32_c rfl) ?_
  refine go_istore (L' := [some (pvR 11 0 129), some (pvI x1), some (pvI x2), some (pvI x3), some (pvI x4), some (pvI 0), some (pvI 1), some (pvI 0), none]) (pc' := 9) dX11_spots_7 rfl (Nat.le_of_ble_eq_true rfl) rfl ?_
  obtain ⟨j23, k24, h⟩ := bd h
  refine l_M_spots_9 d n e x1 x2 x3 x4 zFuel 0 1 0 σ _ k24 ?_
  refine go_iload (pc' := 98) dX11_spots_96 rfl rfl ?_
  obtain ⟨j25, k26, h⟩ := bd h
  have k26J : Go none (Ev (d + 4)) mt231 107 [some (pvR 11 0 129), some (pvI x1), some (pvI x2), some (pvI x3), some (pvI x4), some (pvI j23.1), some (pvI j23.2.1), some (pvI j23.2.2.1), none] [pvI j25] (true, n, e, j23.2.2.2) (0, some (pvI r.1), true, n, e, r.2) := by
    cases h
    exact go_iret dX11_spots_107 rfl rfl
  clear h
  have h := k26
  refine go_if_eq (t := 106) (pc' := 101) dX11_spots_98 rfl rfl (fun c27 => ?_) (fun c27 => ?_)
  · rw [if_pos (show j23.2.1 = 0 from c27)] at h
    refine go_iconst (pc' := 107) dX11_spots_106 rfl (r32_c rfl) ?_
    cases h
    exact k26J
  · rw [if_neg (show ¬ (j23.2.1 = 0) from c27)] at h
    refine go_iload (pc' := 103) dX11_spots_101 rfl rfl ?_
    refine go_goto (t := 107) dX11_spots_103 rfl ?_
    cases h
    exact k26J

set_option maxRecDepth 10000 in
theorem l_M_equal_3 (d : Nat) (n : Nat) (e : Nat) (x1 : Int) (x2 : Int) {out : Out} : ∀ (F : Nat) (y1 : Int) (σ2 : Hp) (j12 : Int × Hp), f_M_equal_3 x1 x2 F y1 σ2 = some j12 → Go none (Ev (d + 0)) mt232 44 [some (pvR 11 0 129), some (pvI x1), some (pvL x2), none, some (pvI j12.1)] [] (true, n, e, j12.2) out → Go none (Ev (d + 0)) mt232 3 [some (pvR 11 0 129), some (pvI x1), some (pvL x2), none, some (pvI y1)] [] (true, n, e, σ2) out := by
  intro F
  induction F with
  | zero =>
    intro _ _ _ h
    intro _
    rw [f_M_equal_3] at h
    cases h
  | succ F ih =>
    intro y1 σ2 j12 h hx
    rw [f_M_equal_3] at h
    refine go_iload (pc' := 5) dX11_equal_3 rfl rfl ?_
    refine go_iload_n (pc' := 6) dX11_equal_5 rfl rfl ?_
    refine go_icmp_ge (t := 44) (pc' := 9) dX11_equal_6 rfl rfl (fun c11 => ?_) (fun c11 => ?_)
    · rw [if_pos (show x1 ≤ y1 from c11)] at h
      cases h
      exact hx
    · rw [if_neg (show ¬ (x1 ≤ y1) from c11)] at h
      refine go_aload_n (pc' := 10) dX11_equal_9 rfl rfl (Nat.le_of_ble_eq_true rfl) ?_
      refine go_getR (k' := 13) (L0 := 51) (P' := 168) (pc' := 13) dX11_equal_10 rfl rf_11_134 rfl rfl (by omega) ?_
      refine go_iload (pc' := 15) dX11_equal_13 rfl rfl ?_
      refine go_lload_n (pc' := 16) dX11_equal_15 rfl rfl ?_
      refine go_iload_n (pc' := 17) dX11_equal_16 rfl rfl ?_
      refine go_i2l (pc' := 18) dX11_equal_17 rfl ?_
      obtain ⟨g3, h⟩ := gd h
      refine go_ldiv (pc' := 19) dX11_equal_18 rfl g3 ?_
      refine go_iload (pc' := 21) dX11_equal_19 rfl rfl ?_
      refine go_i2l (pc' := 22) dX11_equal_21 rfl ?_
      refine go_lload_n (pc' := 23) dX11_equal_22 rfl rfl ?_
      refine go_iload_n (pc' := 24) dX11_equal_23 rfl rfl ?_
      refine go_i2l (pc' := 25) dX11_equal_24 rfl ?_
      obtain ⟨g4, h⟩ := gd h
      refine go_lrem (pc' := 26) dX11_equal_25 rfl g4 ?_
      refine go_lcmp (pc' := 27) dX11_equal_26 rfl ?_
      obtain ⟨j5, k6, h⟩ := bd h
      have k6J : Go none (Ev (d + 0)) mt232 35 [some (pvR 11 0 129), some (pvI x1), some (pvL x2), none, some (pvI y1)] [pvI j5, pvL (Int.tdiv x2 x1), pvI y1, pvR 13 51 168] (true, n, e, σ2) out := by
        refine go_i2l (pc' := 36) dX11_equal_35 rfl ?_
        obtain ⟨g7, h⟩ := gd h
        refine go_ladd (pc' := 37) dX11_equal_36 rfl g7 ?_
        obtain ⟨g8, h⟩ := gd h
        refine go_last (pc' := 38) dX11_equal_37 rfl g8 ?_
        obtain ⟨g9, h⟩ := gd h
        refine go_iinc (L' := [some (pvR 11 0 129), some (pvI x1), some (pvL x2), none, some (pvI (y1 + 1))]) (pc' := 41) dX11_equal_38 rfl rfl g9 rfl ?_
        refine go_goto (t := 3) dX11_equal_41 rfl ?_
        exact ih (y1 + 1) (hset σ2 168 y1 ((Int.tdiv x2 x1) + j5)) _ h hx
      clear h
      have h := k6
      refine go_if_ge (t := 34) (pc' := 30) dX11_equal_27 rfl rfl (fun c10 => ?_) (fun c10 => ?_)
      · rw [if_pos (show 0 ≤ (lcm y1 (Int.tmod x2 x1)) from c10)] at h
        refine go_iconst (pc' := 35) dX11_equal_34 rfl (r32_c rfl) ?_
        cases h
        exact k6J
      · rw [if_neg (show ¬ (0 ≤ (lcm y1 (Int.tmod x2 x1))) from c10)] at h
        refine go_iconst (pc' := 31) dX11_equal_30 rfl (r32_c rfl) ?_
        refine go_goto (t := 35) dX11_equal_31 rfl ?_
        cases h
        exact k6J

set_option maxRecDepth 10000 in
theorem l_M_equal (d : Nat) (n e : Nat) (σ : Hp) (x1 : Int) (x2 : Int) (r : Hp) (h : f_M_equal σ x1 x2 = some r) : Ev (d + 1) 232 [pvR 11 0 129, pvI x1, pvL x2] (true, n, e, σ) (0, none, true, n, e, r) := by
  unfold f_M_equal at h
  refine Ev.of mtE232 rfl rfl rfl rfl ?_
  show Go none (Ev (d + 0)) mt232 0 [some (pvR 11 0 129), some (pvI x1), some (pvL x2), none, none] [] (true, n, e, σ) (0, none, true, n, e, r)
  refine go_iconst (pc' := 1) dX11_equal_0 rfl (r32_c rfl) ?_
  refine go_istore (L' := [some (pvR 11 0 129), some (pvI x1), some (pvL x2), none, some (pvI 0)]) (pc' := 3) dX11_equal_1 rfl (Nat.le_of_ble_eq_true rfl) rfl ?_
  obtain ⟨j13, k14, h⟩ := bd h
  refine l_M_equal_3 d n e x1 x2 zFuel 0 σ _ k14 ?_
  cases h
  exact go_vret dX11_equal_44 rfl rfl

set_option maxRecDepth 10000 in
theorem l_M_weights_9 (d : Nat) (n : Nat) (e : Nat) (σ : Hp) (x1 : Int) (x2 : Int) {out : Out} : ∀ (F : Nat) (y1 : Int) (y2 : Int) (y3 : Int) (j14 : Int × Int × Int), f_M_weights_9 σ x1 F y1 y2 y3 = some j14 → Go none (Ev (d + 1)) mt233 64 [some (pvR 11 0 129), some (pvI x1), some (pvL x2), none, some (pvL j14.1), none, some (pvI j14.2.1), some (pvI j14.2.2), none, none, none] [] (true, n, e, σ) out → Go none (Ev (d + 1)) mt233 9 [some (pvR 11 0 129), some (pvI x1), some (pvL x2), none, some (pvL y1), none, some (pvI y2), some (pvI y3), none, none, none] [] (true, n, e, σ) out := by
  intro F
  induction F with
  | zero =>
    intro _ _ _ _ h
    intro _
    rw [f_M_weights_9] at h
    cases h
  | succ F ih =>
    intro y1 y2 y3 j14 h hx
    rw [f_M_weights_9] at h
    refine go_iload (pc' := 11) dX11_weights_9 rfl rfl ?_
    refine go_iload_n (pc' := 12) dX11_weights_11 rfl rfl ?_
    refine go_icmp_ge (t := 64) (pc' := 15) dX11_weights_12 rfl rfl (fun c13 => ?_) (fun c13 => ?_)
    · rw [if_pos (show x1 ≤ y3 from c13)] at h
      cases h
      exact hx
    · rw [if_neg (show ¬ (x1 ≤ y3) from c13)] at h
      refine go_lload (pc' := 17) dX11_weights_15 rfl rfl ?_
      refine go_aload_n (pc' := 18) dX11_weights_17 rfl rfl (Nat.le_of_ble_eq_true rfl) ?_
      refine go_getR (k' := 12) (L0 := 51) (P' := 154) (pc' := 21) dX11_weights_18 rfl rf_11_84 rfl rfl (by omega) ?_
      refine go_aload_n (pc' := 22) dX11_weights_21 rfl rfl (Nat.le_of_ble_eq_true rfl) ?_
      refine go_getR (k' := 12) (L0 := 51) (P' := 167) (pc' := 25) dX11_weights_22 rfl rf_11_131 rfl rfl (by omega) ?_
      refine go_iload (pc' := 27) dX11_weights_25 rfl rfl ?_
      obtain ⟨g4, h⟩ := gd h
      refine go_iald (pc' := 28) dX11_weights_27 rfl g4 ?_
      obtain ⟨g5, h⟩ := gd h
      refine go_iald (pc' := 29) dX11_weights_28 rfl g5 ?_
      refine go_i2l (pc' := 30) dX11_weights_29 rfl ?_
      obtain ⟨g6, h⟩ := gd h
      refine go_ladd (pc' := 31) dX11_weights_30 rfl g6 ?_
      refine go_lstore (L' := [some (pvR 11 0 129), some (pvI x1), some (pvL x2), none, some (pvL (y1 + (σ 154 (σ 167 y3)))), none, some (pvI y2), some (pvI y3), none, none, none]) (pc' := 33) dX11_weights_31 rfl (Nat.le_of_ble_eq_true rfl) rfl ?_
      refine go_iload (pc' := 35) dX11_weights_33 rfl rfl ?_
      refine go_aload_n (pc' := 36) dX11_weights_35 rfl rfl (Nat.le_of_ble_eq_true rfl) ?_
      refine go_getR (k' := 12) (L0 := 51) (P' := 154) (pc' := 39) dX11_weights_36 rfl rf_11_84 rfl rfl (by omega) ?_
      refine go_aload_n (pc' := 40) dX11_weights_39 rfl rfl (Nat.le_of_ble_eq_true rfl) ?_
      refine go_getR (k' := 12) (L0 := 51) (P' := 167) (pc' := 43) dX11_weights_40 rfl rf_11_131 rfl rfl (by omega) ?_
      refine go_iload (pc' := 45) dX11_weights_43 rfl rfl ?_
      obtain ⟨g7, h⟩ := gd h
      refine go_iald (pc' := 46) dX11_weights_45 rfl g7 ?_
      obtain ⟨g8, h⟩ := gd h
      refine go_iald (pc' := 47) dX11_weights_46 rfl g8 ?_
      obtain ⟨j9, k10, h⟩ := bd h
      have k10J : Go none (Ev (d + 1)) mt233 55 [some (pvR 11 0 129), some (pvI x1), some (pvL x2), none, some (pvL (y1 + (σ 154 (σ 167 y3)))), none, some (pvI y2), some (pvI y3), none, none, none] [pvI j9, pvI y2] (true, n, e, σ) out := by
        refine go_ior (pc' := 56) dX11_weights_55 rfl ?_
        refine go_istore (L' := [some (pvR 11 0 129), some (pvI x1), some (pvL x2), none, some (pvL (y1 + (σ 154 (σ 167 y3)))), none, some (pvI (ior y2 j9)), some (pvI y3), none, none, none]) (pc' := 58) dX11_weights_56 rfl (Nat.le_of_ble_eq_true rfl) rfl ?_
        obtain ⟨g11, h⟩ := gd h
        refine go_iinc (L' := [some (pvR 11 0 129), some (pvI x1), some (pvL x2), none, some (pvL (y1 + (σ 154 (σ 167 y3)))), none, some (pvI (ior y2 j9)), some (pvI (y3 + 1)), none, none, none]) (pc' := 61) dX11_weights_58 rfl rfl g11 rfl ?_
        refine go_goto (t := 9) dX11_weights_61 rfl ?_
        exact ih (y1 + (σ 154 (σ 167 y3))) (ior y2 j9) (y3 + 1) _ h hx
      clear h
      have h := k10
      refine go_if_ge (t := 54) (pc' := 50) dX11_weights_47 rfl rfl (fun c12 => ?_) (fun c12 => ?_)
      · rw [if_pos (show 0 ≤ (σ 154 (σ 167 y3)) from c12)] at h
        refine go_iconst (pc' := 55) dX11_weights_54 rfl (r32_c rfl) ?_
        cases h
        exact k10J
      · rw [if_neg (show ¬ (0 ≤ (σ 154 (σ 167 y3))) from c12)] at h
        refine go_iconst (pc' := 51) dX11_weights_50 rfl (r32_c rfl) ?_
        refine go_goto (t := 55) dX11_weights_51 rfl ?_
        cases h
        exact k10J

set_option maxRecDepth 10000 in
theorem l_M_weights_89 (d : Nat) (n : Nat) (e : Nat) (x1 : Int) (x2 : Int) (j15 : Int × Int × Int) {out : Out} : ∀ (F : Nat) (y19 : Int) (y20 : Int) (σ21 : Hp) (j36 : Int × Int × Hp), f_M_weights_89 x1 x2 j15 F y19 y20 σ21 = some j36 → Go none (Ev (d + 1)) mt233 163 [some (pvR 11 0 129), some (pvI x1), some (pvL x2), none, some (pvL j15.1), none, some (pvI j15.2.1), some (pvL j36.1), none, some (pvI j36.2.1), none] [] (true, n, e, j36.2.2) out → Go none (Ev (d + 1)) mt233 89 [some (pvR 11 0 129), some (pvI x1), some (pvL x2), none, some (pvL j15.1), none, some (pvI j15.2.1), some (pvL y19), none, some (pvI y20), none] [] (true, n, e, σ21) out := by
  intro F
  induction F with
  | zero =>
    intro _ _ _ _ h
    intro _
    rw [f_M_weights_89] at h
    cases h
  | succ F ih =>
    intro y19 y20 σ21 j36 h hx
    rw [f_M_weights_89] at h
    refine go_iload (pc' := 91) dX11_weights_89 rfl rfl ?_
    refine go_iload_n (pc' := 92) dX11_weights_91 rfl rfl ?_
    refine go_icmp_ge (t := 163) (pc' := 95) dX11_weights_92 rfl rfl (fun c35 => ?_) (fun c35 => ?_)
    · rw [if_pos (show x1 ≤ y20 from c35)] at h
      cases h
      exact hx
    · rw [if_neg (show ¬ (x1 ≤ y20) from c35)] at h
      refine go_aload_n (pc' := 96) dX11_weights_95 rfl rfl (Nat.le_of_ble_eq_true rfl) ?_
      refine go_getR (k' := 13) (L0 := 51) (P' := 168) (pc' := 99) dX11_weights_96 rfl rf_11_134 rfl rfl (by omega) ?_
      refine go_iload (pc' := 101) dX11_weights_99 rfl rfl ?_
      refine go_lload_n (pc' := 102) dX11_weights_101 rfl rfl ?_
      refine go_aload_n (pc' := 103) dX11_weights_102 rfl rfl (Nat.le_of_ble_eq_true rfl) ?_
      refine go_getR (k' := 12) (L0 := 51) (P' := 154) (pc' := 106) dX11_weights_103 rfl rf_11_84 rfl rfl (by omega) ?_
      refine go_aload_n (pc' := 107) dX11_weights_106 rfl rfl (Nat.le_of_ble_eq_true rfl) ?_
      refine go_getR (k' := 12) (L0 := 51) (P' := 167) (pc' := 110) dX11_weights_107 rfl rf_11_131 rfl rfl (by omega) ?_
      refine go_iload (pc' := 112) dX11_weights_110 rfl rfl ?_
      obtain ⟨g22, h⟩ := gd h
      refine go_iald (pc' := 113) dX11_weights_112 rfl g22 ?_
      obtain ⟨g23, h⟩ := gd h
      refine go_iald (pc' := 114) dX11_weights_113 rfl g23 ?_
      refine go_i2l (pc' := 115) dX11_weights_114 rfl ?_
      obtain ⟨g24, h⟩ := gd h
      refine go_lmul (pc' := 116) dX11_weights_115 rfl g24 ?_
      refine go_lload (pc' := 118) dX11_weights_116 rfl rfl ?_
      obtain ⟨g25, h⟩ := gd h
      refine go_ldiv (pc' := 119) dX11_weights_118 rfl g25 ?_
      obtain ⟨g26, h⟩ := gd h
      refine go_last (pc' := 120) dX11_weights_119 rfl g26 ?_
      refine go_aload_n (pc' := 121) dX11_weights_120 rfl rfl (Nat.le_of_ble_eq_true rfl) ?_
      refine go_getR (k' := 13) (L0 := 51) (P' := 169) (pc' := 124) dX11_weights_121 rfl rf_11_137 rfl rfl (by omega) ?_
      refine go_iload (pc' := 126) dX11_weights_124 rfl rfl ?_
      refine go_lload_n (pc' := 127) dX11_weights_126 rfl rfl ?_
      refine go_aload_n (pc' := 128) dX11_weights_127 rfl rfl (Nat.le_of_ble_eq_true rfl) ?_
      refine go_getR (k' := 12) (L0 := 51) (P' := 154) (pc' := 131) dX11_weights_128 rfl rf_11_84 rfl rfl (by omega) ?_
      refine go_aload_n (pc' := 132) dX11_weights_131 rfl rfl (Nat.le_of_ble_eq_true rfl) ?_
      refine go_getR (k' := 12) (L0 := 51) (P' := 167) (pc' := 135) dX11_weights_132 rfl rf_11_131 rfl rfl (by omega) ?_
      refine go_iload (pc' := 137) dX11_weights_135 rfl rfl ?_
      obtain ⟨g27, h⟩ := gd h
      refine go_iald (pc' := 138) dX11_weights_137 rfl g27 ?_
      obtain ⟨g28, h⟩ := gd h
      refine go_iald (pc' := 139) dX11_weights_138 rfl g28 ?_
      refine go_i2l (pc' := 140) dX11_weights_139 rfl ?_
      obtain ⟨g29, h⟩ := gd h
      refine go_lmul (pc' := 141) dX11_weights_140 rfl g29 ?_
      refine go_lload (pc' := 143) dX11_weights_141 rfl rfl ?_
      obtain ⟨g30, h⟩ := gd h
      refine go_lrem (pc' := 144) dX11_weights_143 rfl g30 ?_
      obtain ⟨g31, h⟩ := gd h
      refine go_last (pc' := 145) dX11_weights_144 rfl g31 ?_
      refine go_lload (pc' := 147) dX11_weights_145 rfl rfl ?_
      refine go_aload_n (pc' := 148) dX11_weights_147 rfl rfl (Nat.le_of_ble_eq_true rfl) ?_
      refine go_getR (k' := 13) (L0 := 51) (P' := 168) (pc' := 151) dX11_weights_148 rfl rf_11_134 rfl rfl (by omega) ?_
      refine go_iload (pc' := 153) dX11_weights_151 rfl rfl ?_
      obtain ⟨g32, h⟩ := gd h
      refine go_lald (pc' := 154) dX11_weights_153 rfl g32 ?_
      obtain ⟨g33, h⟩ := gd h
      refine go_lsub (pc' := 155) dX11_weights_154 rfl g33 ?_
      refine go_lstore (L' := [some (pvR 11 0 129), some (pvI x1), some (pvL x2), none, some (pvL j15.1), none, some (pvI j15.2.1), some (pvL (y19 - ((hset (hset σ21 168 y20 (Int.tdiv (x2 * (σ21 154 (σ21 167 y20))) j15.1)) 169 y20 (Int.tmod (x2 * ((hset σ21 168 y20 (Int.tdiv (x2 * (σ21 154 (σ21 167 y20))) j15.1)) 154 ((hset σ21 168 y20 (Int.tdiv (x2 * (σ21 154 (σ21 167 y20))) j15.1)) 167 y20))) j15.1)) 168 y20))), none, some (pvI y20), none]) (pc' := 157) dX11_weights_155 rfl (Nat.le_of_ble_eq_true rfl) rfl ?_
      obtain ⟨g34, h⟩ := gd h
      refine go_iinc (L' := [some (pvR 11 0 129), some (pvI x1), some (pvL x2), none, some (pvL j15.1), none, some (pvI j15.2.1), some (pvL (y19 - ((hset (hset σ21 168 y20 (Int.tdiv (x2 * (σ21 154 (σ21 167 y20))) j15.1)) 169 y20 (Int.tmod (x2 * ((hset σ21 168 y20 (Int.tdiv (x2 * (σ21 154 (σ21 167 y20))) j15.1)) 154 ((hset σ21 168 y20 (Int.tdiv (x2 * (σ21 154 (σ21 167 y20))) j15.1)) 167 y20))) j15.1)) 168 y20))), none, some (pvI (y20 + 1)), none]) (pc' := 160) dX11_weights_157 rfl rfl g34 rfl ?_
      refine go_goto (t := 89) dX11_weights_160 rfl ?_
      exact ih (y19 - ((hset (hset σ21 168 y20 (Int.tdiv (x2 * (σ21 154 (σ21 167 y20))) j15.1)) 169 y20 (Int.tmod (x2 * ((hset σ21 168 y20 (Int.tdiv (x2 * (σ21 154 (σ21 167 y20))) j15.1)) 154 ((hset σ21 168 y20 (Int.tdiv (x2 * (σ21 154 (σ21 167 y20))) j15.1)) 167 y20))) j15.1)) 168 y20)) (y20 + 1) (hset (hset σ21 168 y20 (Int.tdiv (x2 * (σ21 154 (σ21 167 y20))) j15.1)) 169 y20 (Int.tmod (x2 * ((hset σ21 168 y20 (Int.tdiv (x2 * (σ21 154 (σ21 167 y20))) j15.1)) 154 ((hset σ21 168 y20 (Int.tdiv (x2 * (σ21 154 (σ21 167 y20))) j15.1)) 167 y20))) j15.1)) _ h hx

set_option maxRecDepth 10000 in
theorem l_M_weights_176 (d : Nat) (n : Nat) (e : Nat) (x1 : Int) (x2 : Int) (j15 : Int × Int × Int) (y39 : Int) (σ41 : Hp) {out : Out} : ∀ (F : Nat) (y42 : Int) (y43 : Int) (j51 : Int × Int), f_M_weights_176 x1 σ41 F y42 y43 = some j51 → Go none (Ev (d + 1)) mt233 215 [some (pvR 11 0 129), some (pvI x1), some (pvL x2), none, some (pvL j15.1), none, some (pvI j15.2.1), some (pvL y39), none, some (pvI j51.1), some (pvI j51.2)] [] (true, n, e, σ41) out → Go none (Ev (d + 1)) mt233 176 [some (pvR 11 0 129), some (pvI x1), some (pvL x2), none, some (pvL j15.1), none, some (pvI j15.2.1), some (pvL y39), none, some (pvI y42), some (pvI y43)] [] (true, n, e, σ41) out := by
  intro F
  induction F with
  | zero =>
    intro _ _ _ h
    intro _
    rw [f_M_weights_176] at h
    cases h
  | succ F ih =>
    intro y42 y43 j51 h hx
    rw [f_M_weights_176] at h
    refine go_iload (pc' := 178) dX11_weights_176 rfl rfl ?_
    refine go_iload_n (pc' := 179) dX11_weights_178 rfl rfl ?_
    refine go_icmp_ge (t := 215) (pc' := 182) dX11_weights_179 rfl rfl (fun c50 => ?_) (fun c50 => ?_)
    · rw [if_pos (show x1 ≤ y43 from c50)] at h
      cases h
      exact hx
    · rw [if_neg (show ¬ (x1 ≤ y43) from c50)] at h
      refine go_aload_n (pc' := 183) dX11_weights_182 rfl rfl (Nat.le_of_ble_eq_true rfl) ?_
      refine go_getR (k' := 13) (L0 := 51) (P' := 169) (pc' := 186) dX11_weights_183 rfl rf_11_137 rfl rfl (by omega) ?_
      refine go_iload (pc' := 188) dX11_weights_186 rfl rfl ?_
      obtain ⟨g44, h⟩ := gd h
      refine go_lald (pc' := 189) dX11_weights_188 rfl g44 ?_
      refine go_aload_n (pc' := 190) dX11_weights_189 rfl rfl (Nat.le_of_ble_eq_true rfl) ?_
      refine go_getR (k' := 13) (L0 := 51) (P' := 169) (pc' := 193) dX11_weights_190 rfl rf_11_137 rfl rfl (by omega) ?_
      refine go_iload (pc' := 195) dX11_weights_193 rfl rfl ?_
      obtain ⟨g45, h⟩ := gd h
      refine go_lald (pc' := 196) dX11_weights_195 rfl g45 ?_
      refine go_lcmp (pc' := 197) dX11_weights_196 rfl ?_
      obtain ⟨j46, k47, h⟩ := bd h
      have k47J : Go none (Ev (d + 1)) mt233 207 [some (pvR 11 0 129), some (pvI x1), some (pvL x2), none, some (pvL j15.1), none, some (pvI j15.2.1), some (pvL y39), none, some (pvI y42), some (pvI y43)] [pvI j46] (true, n, e, σ41) out := by
        refine go_istore (L' := [some (pvR 11 0 129), some (pvI x1), some (pvL x2), none, some (pvL j15.1), none, some (pvI j15.2.1), some (pvL y39), none, some (pvI j46), some (pvI y43)]) (pc' := 209) dX11_weights_207 rfl (Nat.le_of_ble_eq_true rfl) rfl ?_
        obtain ⟨g48, h⟩ := gd h
        refine go_iinc (L' := [some (pvR 11 0 129), some (pvI x1), some (pvL x2), none, some (pvL j15.1), none, some (pvI j15.2.1), some (pvL y39), none, some (pvI j46), some (pvI (y43 + 1))]) (pc' := 212) dX11_weights_209 rfl rfl g48 rfl ?_
        refine go_goto (t := 176) dX11_weights_212 rfl ?_
        exact ih j46 (y43 + 1) _ h hx
      clear h
      have h := k47
      refine go_if_le (t := 205) (pc' := 200) dX11_weights_197 rfl rfl (fun c49 => ?_) (fun c49 => ?_)
      · rw [if_pos (show (lcm (σ41 169 y43) (σ41 169 y42)) ≤ 0 from c49)] at h
        refine go_iload (pc' := 207) dX11_weights_205 rfl rfl ?_
        cases h
        exact k47J
      · rw [if_neg (show ¬ ((lcm (σ41 169 y43) (σ41 169 y42)) ≤ 0) from c49)] at h
        refine go_iload (pc' := 202) dX11_weights_200 rfl rfl ?_
        refine go_goto (t := 207) dX11_weights_202 rfl ?_
        cases h
        exact k47J

set_option maxRecDepth 10000 in
theorem l_M_weights_163 (d : Nat) (n : Nat) (e : Nat) (x1 : Int) (x2 : Int) (j15 : Int × Int × Int) {out : Out} : ∀ (F : Nat) (y39 : Int) (y40 : Int) (σ41 : Hp) (j60 : Int × Int × Hp), f_M_weights_163 x1 F y39 y40 σ41 = some j60 → Go none (Ev (d + 1)) mt233 245 [some (pvR 11 0 129), some (pvI x1), some (pvL x2), none, some (pvL j15.1), none, some (pvI j15.2.1), some (pvL j60.1), none, some (pvI j60.2.1), none] [] (true, n, e, j60.2.2) out → Go none (Ev (d + 1)) mt233 163 [some (pvR 11 0 129), some (pvI x1), some (pvL x2), none, some (pvL j15.1), none, some (pvI j15.2.1), some (pvL y39), none, some (pvI y40), none] [] (true, n, e, σ41) out := by
  intro F
  induction F with
  | zero =>
    intro _ _ _ _ h
    intro _
    rw [f_M_weights_163] at h
    cases h
  | succ F ih =>
    intro y39 y40 σ41 j60 h hx
    rw [f_M_weights_163] at h
    refine go_lload (pc' := 165) dX11_weights_163 rfl rfl ?_
    refine go_lconst (z := 0) (pc' := 166) dX11_weights_165 rfl rfl ?_
    refine go_lcmp (pc' := 167) dX11_weights_166 rfl ?_
    refine go_if_le (t := 245) (pc' := 170) dX11_weights_167 rfl rfl (fun c59 => ?_) (fun c59 => ?_)
    · rw [if_pos (show (lcm y39 0) ≤ 0 from c59)] at h
      cases h
      exact hx
    · rw [if_neg (show ¬ ((lcm y39 0) ≤ 0) from c59)] at h
      refine go_iconst (pc' := 171) dX11_weights_170 rfl (r32_c rfl) ?_
      refine go_istore (L' := [some (pvR 11 0 129), some (pvI x1), some (pvL x2), none, some (pvL j15.1), none, some (pvI j15.2.1), some (pvL y39), none, some (pvI 0), none]) (pc' := 173) dX11_weights_171 rfl (Nat.le_of_ble_eq_true rfl) rfl ?_
      refine go_iconst (pc' := 174) dX11_weights_173 rfl (r32_c rfl) ?_
      refine go_istore (L' := [some (pvR 11 0 129), some (pvI x1), some (pvL x2), none, some (pvL j15.1), none, some (pvI j15.2.1), some (pvL y39), none, some (pvI 0), some (pvI 1)]) (pc' := 176) dX11_weights_174 rfl (Nat.le_of_ble_eq_true rfl) rfl ?_
      obtain ⟨j52, k53, h⟩ := bd h
      refine l_M_weights_176 d n e x1 x2 j15 y39 σ41 zFuel 0 1 _ k53 ?_
      refine go_aload_n (pc' := 216) dX11_weights_215 rfl rfl (Nat.le_of_ble_eq_true rfl) ?_
      refine go_getR (k' := 13) (L0 := 51) (P' := 168) (pc' := 219) dX11_weights_216 rfl rf_11_134 rfl rfl (by omega) ?_
      refine go_iload (pc' := 221) dX11_weights_219 rfl rfl ?_
      refine go_dup2 (pc' := 222) dX11_weights_221 rfl (Nat.ne_of_beq_eq_false rfl) (Nat.ne_of_beq_eq_false rfl) ?_
      obtain ⟨g54, h⟩ := gd h
      refine go_lald (pc' := 223) dX11_weights_222 rfl g54 ?_
      refine go_lconst (z := 1) (pc' := 224) dX11_weights_223 rfl rfl ?_
      obtain ⟨g55, h⟩ := gd h
      refine go_ladd (pc' := 225) dX11_weights_224 rfl g55 ?_
      obtain ⟨g56, h⟩ := gd h
      refine go_last (pc' := 226) dX11_weights_225 rfl g56 ?_
      refine go_aload_n (pc' := 227) dX11_weights_226 rfl rfl (Nat.le_of_ble_eq_true rfl) ?_
      refine go_getR (k' := 13) (L0 := 51) (P' := 169) (pc' := 230) dX11_weights_227 rfl rf_11_137 rfl rfl (by omega) ?_
      refine go_iload (pc' := 232) dX11_weights_230 rfl rfl ?_
      refine go_ldc2 (pc' := 235) dX11_weights_232 rfl (r64_c rfl) rc_11_183 ?_
      obtain ⟨g57, h⟩ := gd h
      refine go_last (pc' := 236) dX11_weights_235 rfl g57 ?_
      refine go_lload (pc' := 238) dX11_weights_236 rfl rfl ?_
      refine go_lconst (z := 1) (pc' := 239) dX11_weights_238 rfl rfl ?_
      obtain ⟨g58, h⟩ := gd h
      refine go_lsub (pc' := 240) dX11_weights_239 rfl g58 ?_
      refine go_lstore (L' := [some (pvR 11 0 129), some (pvI x1), some (pvL x2), none, some (pvL j15.1), none, some (pvI j15.2.1), some (pvL (y39 - 1)), none, some (pvI j52.1), some (pvI j52.2)]) (pc' := 242) dX11_weights_240 rfl (Nat.le_of_ble_eq_true rfl) rfl ?_
      refine go_goto (t := 163) dX11_weights_242 rfl ?_
      exact go_sub (ih (y39 - 1) j52.1 (hset (hset σ41 168 j52.1 ((σ41 168 j52.1) + 1)) 169 j52.1 (-1)) _ h hx) ⟨Or.inr rfl, Or.inr rfl, Or.inr rfl, Or.inr rfl, Or.inr rfl, Or.inr rfl, Or.inr rfl, Or.inr rfl, Or.inr rfl, Or.inr rfl, Or.inl rfl, trivial⟩

set_option maxRecDepth 10000 in
theorem l_M_weights (d : Nat) (n e : Nat) (σ : Hp) (x1 : Int) (x2 : Int) (r : Hp) (h : f_M_weights σ x1 x2 = some r) : Ev (d + 2) 233 [pvR 11 0 129, pvI x1, pvL x2] (true, n, e, σ) (0, none, true, n, e, r) := by
  unfold f_M_weights at h
  refine Ev.of mtE233 rfl rfl rfl rfl ?_
  show Go none (Ev (d + 1)) mt233 0 [some (pvR 11 0 129), some (pvI x1), some (pvL x2), none, none, none, none, none, none, none, none] [] (true, n, e, σ) (0, none, true, n, e, r)
  refine go_lconst (z := 0) (pc' := 1) dX11_weights_0 rfl rfl ?_
  refine go_lstore (L' := [some (pvR 11 0 129), some (pvI x1), some (pvL x2), none, some (pvL 0), none, none, none, none, none, none]) (pc' := 3) dX11_weights_1 rfl (Nat.le_of_ble_eq_true rfl) rfl ?_
  refine go_iconst (pc' := 4) dX11_weights_3 rfl (r32_c rfl) ?_
  refine go_istore (L' := [some (pvR 11 0 129), some (pvI x1), some (pvL x2), none, some (pvL 0), none, some (pvI 0), none, none, none, none]) (pc' := 6) dX11_weights_4 rfl (Nat.le_of_ble_eq_true rfl) rfl ?_
  refine go_iconst (pc' := 7) dX11_weights_6 rfl (r32_c rfl) ?_
  refine go_istore (L' := [some (pvR 11 0 129), some (pvI x1), some (pvL x2), none, some (pvL 0), none, some (pvI 0), some (pvI 0), none, none, none]) (pc' := 9) dX11_weights_7 rfl (Nat.le_of_ble_eq_true rfl) rfl ?_
  obtain ⟨j15, k16, h⟩ := bd h
  refine l_M_weights_9 d n e σ x1 x2 zFuel 0 0 0 _ k16 ?_
  refine go_iload (pc' := 66) dX11_weights_64 rfl rfl ?_
  refine go_if_ne (t := 76) (pc' := 69) dX11_weights_66 rfl rfl (fun c66 => ?_) (fun c66 => ?_)
  · rw [if_pos (show j15.2.1 ≠ 0 from c66)] at h
    refine go_aload_n (pc' := 77) dX11_weights_76 rfl rfl (Nat.le_of_ble_eq_true rfl) ?_
    refine go_iload_n (pc' := 78) dX11_weights_77 rfl rfl ?_
    refine go_lload_n (pc' := 79) dX11_weights_78 rfl rfl ?_
    obtain ⟨v17, k18, h⟩ := bd h
    have k18 := l_M_equal (d + 0) n e σ x1 x2 _ k18
    refine go_call (kc := 232) (Mc := mt232) (v := none) (w' := (true, n, e, v17)) (pc' := 82) (st' := []) [pvR 11 0 129, pvI x1, pvL x2] [] (Or.inl rfl) dX11_weights_79 rfl rm_11_339 mtE232 rfl rfl rfl (Nat.le_of_ble_eq_true rfl) (Or.inr ⟨_, _, 129, rfl, Or.inl rfl⟩) k18 rfl ?_
    cases h
    exact go_vret dX11_weights_82 rfl rfl
  · rw [if_neg (show ¬ (j15.2.1 ≠ 0) from c66)] at h
    refine go_lload (pc' := 71) dX11_weights_69 rfl rfl ?_
    refine go_lconst (z := 0) (pc' := 72) dX11_weights_71 rfl rfl ?_
    refine go_lcmp (pc' := 73) dX11_weights_72 rfl ?_
    refine go_if_gt (t := 83) (pc' := 76) dX11_weights_73 rfl rfl (fun c65 => ?_) (fun c65 => ?_)
    · rw [if_pos (show 0 < (lcm j15.1 0) from c65)] at h
      refine go_lload_n (pc' := 84) dX11_weights_83 rfl rfl ?_
      refine go_lstore (L' := [some (pvR 11 0 129), some (pvI x1), some (pvL x2), none, some (pvL j15.1), none, some (pvI j15.2.1), some (pvL x2), none, none, none]) (pc' := 86) dX11_weights_84 rfl (Nat.le_of_ble_eq_true rfl) rfl ?_
      refine go_iconst (pc' := 87) dX11_weights_86 rfl (r32_c rfl) ?_
      refine go_istore (L' := [some (pvR 11 0 129), some (pvI x1), some (pvL x2), none, some (pvL j15.1), none, some (pvI j15.2.1), some (pvL x2), none, some (pvI 0), none]) (pc' := 89) dX11_weights_87 rfl (Nat.le_of_ble_eq_true rfl) rfl ?_
      obtain ⟨j37, k38, h⟩ := bd h
      refine l_M_weights_89 d n e x1 x2 j15 zFuel x2 0 σ _ k38 ?_
      obtain ⟨j61, k62, h⟩ := bd h
      refine l_M_weights_163 d n e x1 x2 j15 zFuel j37.1 j37.2.1 j37.2.2 _ k62 ?_
      cases h
      exact go_vret dX11_weights_245 rfl rfl
    · rw [if_neg (show ¬ (0 < (lcm j15.1 0)) from c65)] at h
      refine go_aload_n (pc' := 77) dX11_weights_76 rfl rfl (Nat.le_of_ble_eq_true rfl) ?_
      refine go_iload_n (pc' := 78) dX11_weights_77 rfl rfl ?_
      refine go_lload_n (pc' := 79) dX11_weights_78 rfl rfl ?_
      obtain ⟨v63, k64, h⟩ := bd h
      have k64 := l_M_equal (d + 0) n e σ x1 x2 _ k64
      refine go_call (kc := 232) (Mc := mt232) (v := none) (w' := (true, n, e, v63)) (pc' := 82) (st' := []) [pvR 11 0 129, pvI x1, pvL x2] [] (Or.inl rfl) dX11_weights_79 rfl rm_11_339 mtE232 rfl rfl rfl (Nat.le_of_ble_eq_true rfl) (Or.inr ⟨_, _, 129, rfl, Or.inl rfl⟩) k64 rfl ?_
      cases h
      exact go_vret dX11_weights_82 rfl rfl

set_option maxRecDepth 10000 in
theorem l_M_remains_6 (d : Nat) (n : Nat) (e : Nat) (x1 : Int) (x2 : Int) {out : Out} : ∀ (F : Nat) (y1 : Int) (y2 : Int) (σ3 : Hp) (j11 : Int × Int × Hp), f_M_remains_6 x1 F y1 y2 σ3 = some j11 → Go none (Ev (d + 0)) mt234 50 [some (pvR 11 0 129), some (pvI x1), some (pvL x2), none, some (pvL j11.1), none, some (pvI j11.2.1)] [] (true, n, e, j11.2.2) out → Go none (Ev (d + 0)) mt234 6 [some (pvR 11 0 129), some (pvI x1), some (pvL x2), none, some (pvL y1), none, some (pvI y2)] [] (true, n, e, σ3) out := by
  intro F
  induction F with
  | zero =>
    intro _ _ _ _ h
    intro _
    rw [f_M_remains_6] at h
    cases h
  | succ F ih =>
    intro y1 y2 σ3 j11 h hx
    rw [f_M_remains_6] at h
    refine go_iload (pc' := 8) dX11_remains_6 rfl rfl ?_
    refine go_iload_n (pc' := 9) dX11_remains_8 rfl rfl ?_
    refine go_icmp_ge (t := 50) (pc' := 12) dX11_remains_9 rfl rfl (fun c10 => ?_) (fun c10 => ?_)
    · rw [if_pos (show x1 ≤ y2 from c10)] at h
      cases h
      exact hx
    · rw [if_neg (show ¬ (x1 ≤ y2) from c10)] at h
      refine go_aload_n (pc' := 13) dX11_remains_12 rfl rfl (Nat.le_of_ble_eq_true rfl) ?_
      refine go_getR (k' := 13) (L0 := 51) (P' := 168) (pc' := 16) dX11_remains_13 rfl rf_11_134 rfl rfl (by omega) ?_
      refine go_iload (pc' := 18) dX11_remains_16 rfl rfl ?_
      refine go_aload_n (pc' := 19) dX11_remains_18 rfl rfl (Nat.le_of_ble_eq_true rfl) ?_
      refine go_getR (k' := 12) (L0 := 51) (P' := 154) (pc' := 22) dX11_remains_19 rfl rf_11_84 rfl rfl (by omega) ?_
      refine go_aload_n (pc' := 23) dX11_remains_22 rfl rfl (Nat.le_of_ble_eq_true rfl) ?_
      refine go_getR (k' := 12) (L0 := 51) (P' := 167) (pc' := 26) dX11_remains_23 rfl rf_11_131 rfl rfl (by omega) ?_
      refine go_iload (pc' := 28) dX11_remains_26 rfl rfl ?_
      obtain ⟨g4, h⟩ := gd h
      refine go_iald (pc' := 29) dX11_remains_28 rfl g4 ?_
      obtain ⟨g5, h⟩ := gd h
      refine go_iald (pc' := 30) dX11_remains_29 rfl g5 ?_
      refine go_i2l (pc' := 31) dX11_remains_30 rfl ?_
      obtain ⟨g6, h⟩ := gd h
      refine go_last (pc' := 32) dX11_remains_31 rfl g6 ?_
      refine go_lload (pc' := 34) dX11_remains_32 rfl rfl ?_
      refine go_aload_n (pc' := 35) dX11_remains_34 rfl rfl (Nat.le_of_ble_eq_true rfl) ?_
      refine go_getR (k' := 13) (L0 := 51) (P' := 168) (pc' := 38) dX11_remains_35 rfl rf_11_134 rfl rfl (by omega) ?_
      refine go_iload (pc' := 40) dX11_remains_38 rfl rfl ?_
      obtain ⟨g7, h⟩ := gd h
      refine go_lald (pc' := 41) dX11_remains_40 rfl g7 ?_
      obtain ⟨g8, h⟩ := gd h
      refine go_ladd (pc' := 42) dX11_remains_41 rfl g8 ?_
      refine go_lstore (L' := [some (pvR 11 0 129), some (pvI x1), some (pvL x2), none, some (pvL (y1 + ((hset σ3 168 y2 (σ3 154 (σ3 167 y2))) 168 y2))), none, some (pvI y2)]) (pc' := 44) dX11_remains_42 rfl (Nat.le_of_ble_eq_true rfl) rfl ?_
      obtain ⟨g9, h⟩ := gd h
      refine go_iinc (L' := [some (pvR 11 0 129), some (pvI x1), some (pvL x2), none, some (pvL (y1 + ((hset σ3 168 y2 (σ3 154 (σ3 167 y2))) 168 y2))), none, some (pvI (y2 + 1))]) (pc' := 47) dX11_remains_44 rfl rfl g9 rfl ?_
      refine go_goto (t := 6) dX11_remains_47 rfl ?_
      exact ih (y1 + ((hset σ3 168 y2 (σ3 154 (σ3 167 y2))) 168 y2)) (y2 + 1) (hset σ3 168 y2 (σ3 154 (σ3 167 y2))) _ h hx

set_option maxRecDepth 10000 in
theorem l_M_remains (d : Nat) (n e : Nat) (σ : Hp) (x1 : Int) (x2 : Int) (r : Hp) (h : f_M_remains σ x1 x2 = some r) : Ev (d + 1) 234 [pvR 11 0 129, pvI x1, pvL x2] (true, n, e, σ) (0, none, true, n, e, r) := by
  unfold f_M_remains at h
  refine Ev.of mtE234 rfl rfl rfl rfl ?_
  show Go none (Ev (d + 0)) mt234 0 [some (pvR 11 0 129), some (pvI x1), some (pvL x2), none, none, none, none] [] (true, n, e, σ) (0, none, true, n, e, r)
  refine go_lconst (z := 0) (pc' := 1) dX11_remains_0 rfl rfl ?_
  refine go_lstore (L' := [some (pvR 11 0 129), some (pvI x1), some (pvL x2), none, some (pvL 0), none, none]) (pc' := 3) dX11_remains_1 rfl (Nat.le_of_ble_eq_true rfl) rfl ?_
  refine go_iconst (pc' := 4) dX11_remains_3 rfl (r32_c rfl) ?_
  refine go_istore (L' := [some (pvR 11 0 129), some (pvI x1), some (pvL x2), none, some (pvL 0), none, some (pvI 1)]) (pc' := 6) dX11_remains_4 rfl (Nat.le_of_ble_eq_true rfl) rfl ?_
  obtain ⟨j12, k13, h⟩ := bd h
  refine l_M_remains_6 d n e x1 x2 zFuel 0 1 σ _ k13 ?_
  refine go_aload_n (pc' := 51) dX11_remains_50 rfl rfl (Nat.le_of_ble_eq_true rfl) ?_
  refine go_getR (k' := 13) (L0 := 51) (P' := 168) (pc' := 54) dX11_remains_51 rfl rf_11_134 rfl rfl (by omega) ?_
  refine go_iconst (pc' := 55) dX11_remains_54 rfl (r32_c rfl) ?_
  refine go_lload_n (pc' := 56) dX11_remains_55 rfl rfl ?_
  refine go_lload (pc' := 58) dX11_remains_56 rfl rfl ?_
  obtain ⟨g14, h⟩ := gd h
  refine go_lsub (pc' := 59) dX11_remains_58 rfl g14 ?_
  obtain ⟨g15, h⟩ := gd h
  refine go_last (pc' := 60) dX11_remains_59 rfl g15 ?_
  cases h
  exact go_vret dX11_remains_60 rfl rfl

set_option maxRecDepth 10000 in
theorem l_M_write_196 (d : Nat) (n : Nat) (e : Nat) (x1 : Int) (x2 : Int) (x3 : Int) (x4 : Int) (x5 : Int) (x6 : Int) (j5 : Int) (v1 : Int) (j25 : Int × Hp) (j31 : Hp) {out : Out} : ∀ (F : Nat) (y41 : Int) (y42 : Int) (j51 : Int × Int), f_M_write_196 j25 j31 F y41 y42 = some j51 → Go none (Ev (d + 6)) mt230 239 [some (pvR 11 0 129), some (pvI x1), some (pvI x2), some (pvI x3), some (pvI x4), some (pvI x5), some (pvI x6), some (pvI v1), some (pvI j5), some (pvI j51.1), some (pvI j25.1), some (pvI j51.2), none, none] [] (true, n, e, j31) out → Go none (Ev (d + 6)) mt230 196 [some (pvR 11 0 129), some (pvI x1), some (pvI x2), some (pvI x3), some (pvI x4), some (pvI x5), some (pvI x6), some (pvI v1), some (pvI j5), some (pvI y41), some (pvI j25.1), some (pvI y42), none, none] [] (true, n, e, j31) out := by
  intro F
  induction F with
  | zero =>
    intro _ _ _ h
    intro _
    rw [f_M_write_196] at h
    cases h
  | succ F ih =>
    intro y41 y42 j51 h hx
    rw [f_M_write_196] at h
    refine go_iload (pc' := 198) dX11_write_196 rfl rfl ?_
    refine go_iload (pc' := 200) dX11_write_198 rfl rfl ?_
    refine go_icmp_ge (t := 239) (pc' := 203) dX11_write_200 rfl rfl (fun c50 => ?_) (fun c50 => ?_)
    · rw [if_pos (show j25.1 ≤ y42 from c50)] at h
      cases h
      exact hx
    · rw [if_neg (show ¬ (j25.1 ≤ y42) from c50)] at h
      refine go_iload (pc' := 205) dX11_write_203 rfl rfl ?_
      refine go_aload_n (pc' := 206) dX11_write_205 rfl rfl (Nat.le_of_ble_eq_true rfl) ?_
      refine go_aload_n (pc' := 207) dX11_write_206 rfl rfl (Nat.le_of_ble_eq_true rfl) ?_
      refine go_getR (k' := 13) (L0 := 51) (P' := 168) (pc' := 210) dX11_write_207 rfl rf_11_134 rfl rfl (by omega) ?_
      refine go_iload (pc' := 212) dX11_write_210 rfl rfl ?_
      obtain ⟨g43, h⟩ := gd h
      refine go_lald (pc' := 213) dX11_write_212 rfl g43 ?_
      refine go_ldc2 (pc' := 216) dX11_write_213 rfl (r64_c rfl) rc_11_213 ?_
      refine go_ldc2 (pc' := 219) dX11_write_216 rfl (r64_c rfl) rc_11_215 ?_
      obtain ⟨v44, k45, h⟩ := bd h
      have k45 := l_M_in (d + 5) n e j31 (j31 168 y42) (-1000000) 1000000 _ k45
      refine go_call (kc := 172) (Mc := mt172) (v := some (pvI v44)) (w' := (true, n, e, j31)) (pc' := 222) (st' := [pvI v44, pvI y41]) [pvR 11 0 129, pvL (j31 168 y42), pvL (-1000000), pvL 1000000] [pvI y41] (Or.inl rfl) dX11_write_219 rfl rm_11_145 mtE172 rfl rfl rfl (Nat.le_of_ble_eq_true rfl) (Or.inr ⟨_, _, 129, rfl, Or.inl rfl⟩) k45 rfl ?_
      obtain ⟨j46, k47, h⟩ := bd h
      have k47J : Go none (Ev (d + 6)) mt230 230 [some (pvR 11 0 129), some (pvI x1), some (pvI x2), some (pvI x3), some (pvI x4), some (pvI x5), some (pvI x6), some (pvI v1), some (pvI j5), some (pvI y41), some (pvI j25.1), some (pvI y42), none, none] [pvI j46, pvI y41] (true, n, e, j31) out := by
        refine go_ior (pc' := 231) dX11_write_230 rfl ?_
        refine go_istore (L' := [some (pvR 11 0 129), some (pvI x1), some (pvI x2), some (pvI x3), some (pvI x4), some (pvI x5), some (pvI x6), some (pvI v1), some (pvI j5), some (pvI (ior y41 j46)), some (pvI j25.1), some (pvI y42), none, none]) (pc' := 233) dX11_write_231 rfl (Nat.le_of_ble_eq_true rfl) rfl ?_
        obtain ⟨g48, h⟩ := gd h
        refine go_iinc (L' := [some (pvR 11 0 129), some (pvI x1), some (pvI x2), some (pvI x3), some (pvI x4), some (pvI x5), some (pvI x6), some (pvI v1), some (pvI j5), some (pvI (ior y41 j46)), some (pvI j25.1), some (pvI (y42 + 1)), none, none]) (pc' := 236) dX11_write_233 rfl rfl g48 rfl ?_
        refine go_goto (t := 196) dX11_write_236 rfl ?_
        exact ih (ior y41 j46) (y42 + 1) _ h hx
      clear h
      have h := k47
      refine go_if_ne (t := 229) (pc' := 225) dX11_write_222 rfl rfl (fun c49 => ?_) (fun c49 => ?_)
      · rw [if_pos (show v44 ≠ 0 from c49)] at h
        refine go_iconst (pc' := 230) dX11_write_229 rfl (r32_c rfl) ?_
        cases h
        exact k47J
      · rw [if_neg (show ¬ (v44 ≠ 0) from c49)] at h
        refine go_iconst (pc' := 226) dX11_write_225 rfl (r32_c rfl) ?_
        refine go_goto (t := 230) dX11_write_226 rfl ?_
        cases h
        exact k47J

set_option maxRecDepth 10000 in
theorem l_M_write_343 (d : Nat) (n : Nat) (e : Nat) (x1 : Int) (x2 : Int) (x3 : Int) (x4 : Int) (x5 : Int) (x6 : Int) (j5 : Int) (v1 : Int) (j25 : Int × Hp) (j52 : Int × Int) (j54 : Int) {out : Out} : ∀ (F : Nat) (y74 : Int) (y75 : Int) (σ76 : Hp) (j92 : Int × Int × Hp), f_M_write_343 j25 F y74 y75 σ76 = some j92 → Go none (Ev (d + 6)) mt230 420 [some (pvR 11 0 129), some (pvI x1), some (pvI x2), some (pvI x3), some (pvI x4), some (pvI x5), some (pvI x6), some (pvI v1), some (pvI j5), some (pvI (ior j52.1 j54)), some (pvI j25.1), some (pvI j92.1), some (pvI j92.2.1), none] [] (true, n, e, j92.2.2) out → Go none (Ev (d + 6)) mt230 343 [some (pvR 11 0 129), some (pvI x1), some (pvI x2), some (pvI x3), some (pvI x4), some (pvI x5), some (pvI x6), some (pvI v1), some (pvI j5), some (pvI (ior j52.1 j54)), some (pvI j25.1), some (pvI y74), some (pvI y75), none] [] (true, n, e, σ76) out := by
  intro F
  induction F with
  | zero =>
    intro _ _ _ _ h
    intro _
    rw [f_M_write_343] at h
    cases h
  | succ F ih =>
    intro y74 y75 σ76 j92 h hx
    rw [f_M_write_343] at h
    refine go_iload (pc' := 345) dX11_write_343 rfl rfl ?_
    refine go_iload (pc' := 347) dX11_write_345 rfl rfl ?_
    refine go_icmp_ge (t := 420) (pc' := 350) dX11_write_347 rfl rfl (fun c91 => ?_) (fun c91 => ?_)
    · rw [if_pos (show j25.1 ≤ y75 from c91)] at h
      cases h
      exact hx
    · rw [if_neg (show ¬ (j25.1 ≤ y75) from c91)] at h
      refine go_aload_n (pc' := 351) dX11_write_350 rfl rfl (Nat.le_of_ble_eq_true rfl) ?_
      refine go_getR (k' := 12) (L0 := 51) (P' := 167) (pc' := 354) dX11_write_351 rfl rf_11_131 rfl rfl (by omega) ?_
      refine go_iload (pc' := 356) dX11_write_354 rfl rfl ?_
      obtain ⟨g77, h⟩ := gd h
      refine go_iald (pc' := 357) dX11_write_356 rfl g77 ?_
      refine go_istore (L' := [some (pvR 11 0 129), some (pvI x1), some (pvI x2), some (pvI x3), some (pvI x4), some (pvI x5), some (pvI x6), some (pvI v1), some (pvI j5), some (pvI (ior j52.1 j54)), some (pvI j25.1), some (pvI y74), some (pvI y75), some (pvI (σ76 167 y75))]) (pc' := 359) dX11_write_357 rfl (Nat.le_of_ble_eq_true rfl) rfl ?_
      refine go_iload (pc' := 361) dX11_write_359 rfl rfl ?_
      refine go_aload_n (pc' := 362) dX11_write_361 rfl rfl (Nat.le_of_ble_eq_true rfl) ?_
      refine go_iload (pc' := 364) dX11_write_362 rfl rfl ?_
      refine go_aload_n (pc' := 365) dX11_write_364 rfl rfl (Nat.le_of_ble_eq_true rfl) ?_
      refine go_getR (k' := 12) (L0 := 51) (P' := 150) (pc' := 368) dX11_write_365 rfl rf_11_72 rfl rfl (by omega) ?_
      refine go_iload (pc' := 370) dX11_write_368 rfl rfl ?_
      obtain ⟨g78, h⟩ := gd h
      refine go_iald (pc' := 371) dX11_write_370 rfl g78 ?_
      refine go_aload_n (pc' := 372) dX11_write_371 rfl rfl (Nat.le_of_ble_eq_true rfl) ?_
      refine go_getR (k' := 12) (L0 := 51) (P' := 151) (pc' := 375) dX11_write_372 rfl rf_11_75 rfl rfl (by omega) ?_
      refine go_iload (pc' := 377) dX11_write_375 rfl rfl ?_
      obtain ⟨g79, h⟩ := gd h
      refine go_iald (pc' := 378) dX11_write_377 rfl g79 ?_
      refine go_aload_n (pc' := 379) dX11_write_378 rfl rfl (Nat.le_of_ble_eq_true rfl) ?_
      refine go_getR (k' := 12) (L0 := 51) (P' := 152) (pc' := 382) dX11_write_379 rfl rf_11_78 rfl rfl (by omega) ?_
      refine go_iload (pc' := 384) dX11_write_382 rfl rfl ?_
      obtain ⟨g80, h⟩ := gd h
      refine go_iald (pc' := 385) dX11_write_384 rfl g80 ?_
      refine go_aload_n (pc' := 386) dX11_write_385 rfl rfl (Nat.le_of_ble_eq_true rfl) ?_
      refine go_getR (k' := 12) (L0 := 51) (P' := 153) (pc' := 389) dX11_write_386 rfl rf_11_81 rfl rfl (by omega) ?_
      refine go_iload (pc' := 391) dX11_write_389 rfl rfl ?_
      obtain ⟨g81, h⟩ := gd h
      refine go_iald (pc' := 392) dX11_write_391 rfl g81 ?_
      refine go_aload_n (pc' := 393) dX11_write_392 rfl rfl (Nat.le_of_ble_eq_true rfl) ?_
      refine go_getR (k' := 13) (L0 := 51) (P' := 168) (pc' := 396) dX11_write_393 rfl rf_11_134 rfl rfl (by omega) ?_
      refine go_iload (pc' := 398) dX11_write_396 rfl rfl ?_
      obtain ⟨g82, h⟩ := gd h
      refine go_lald (pc' := 399) dX11_write_398 rfl g82 ?_
      obtain ⟨g83, h⟩ := gd h
      refine go_l2i (pc' := 400) dX11_write_399 rfl g83 ?_
      obtain ⟨v84, k85, h⟩ := bd h
      have k85 := l_M_put (d + 0) n e σ76 (σ76 167 y75) (σ76 150 (σ76 167 y75)) (σ76 151 (σ76 167 y75)) (σ76 152 (σ76 167 y75)) (σ76 153 (σ76 167 y75)) (σ76 168 y75) _ k85
      refine go_call (kc := 198) (Mc := mt198) (v := some (pvI v84.1)) (w' := (true, n, e, v84.2)) (pc' := 403) (st' := [pvI v84.1, pvI y74]) [pvR 11 0 129, pvI (σ76 167 y75), pvI (σ76 150 (σ76 167 y75)), pvI (σ76 151 (σ76 167 y75)), pvI (σ76 152 (σ76 167 y75)), pvI (σ76 153 (σ76 167 y75)), pvI (σ76 168 y75)] [pvI y74] (Or.inl rfl) dX11_write_400 rfl rm_11_241 mtE198 rfl rfl rfl (Nat.le_of_ble_eq_true rfl) (Or.inr ⟨_, _, 129, rfl, Or.inl rfl⟩) k85 rfl ?_
      obtain ⟨j86, k87, h⟩ := bd h
      have k87J : Go none (Ev (d + 6)) mt230 411 [some (pvR 11 0 129), some (pvI x1), some (pvI x2), some (pvI x3), some (pvI x4), some (pvI x5), some (pvI x6), some (pvI v1), some (pvI j5), some (pvI (ior j52.1 j54)), some (pvI j25.1), some (pvI y74), some (pvI y75), some (pvI (σ76 167 y75))] [pvI j86, pvI y74] (true, n, e, v84.2) out := by
        obtain ⟨g88, h⟩ := gd h
        refine go_iadd (pc' := 412) dX11_write_411 rfl g88 ?_
        refine go_istore (L' := [some (pvR 11 0 129), some (pvI x1), some (pvI x2), some (pvI x3), some (pvI x4), some (pvI x5), some (pvI x6), some (pvI v1), some (pvI j5), some (pvI (ior j52.1 j54)), some (pvI j25.1), some (pvI (y74 + j86)), some (pvI y75), some (pvI (σ76 167 y75))]) (pc' := 414) dX11_write_412 rfl (Nat.le_of_ble_eq_true rfl) rfl ?_
        obtain ⟨g89, h⟩ := gd h
        refine go_iinc (L' := [some (pvR 11 0 129), some (pvI x1), some (pvI x2), some (pvI x3), some (pvI x4), some (pvI x5), some (pvI x6), some (pvI v1), some (pvI j5), some (pvI (ior j52.1 j54)), some (pvI j25.1), some (pvI (y74 + j86)), some (pvI (y75 + 1)), some (pvI (σ76 167 y75))]) (pc' := 417) dX11_write_414 rfl rfl g89 rfl ?_
        refine go_goto (t := 343) dX11_write_417 rfl ?_
        exact go_sub (ih (y74 + j86) (y75 + 1) v84.2 _ h hx) ⟨Or.inr rfl, Or.inr rfl, Or.inr rfl, Or.inr rfl, Or.inr rfl, Or.inr rfl, Or.inr rfl, Or.inr rfl, Or.inr rfl, Or.inr rfl, Or.inr rfl, Or.inr rfl, Or.inr rfl, Or.inl rfl, trivial⟩
      clear h
      have h := k87
      refine go_if_eq (t := 410) (pc' := 406) dX11_write_403 rfl rfl (fun c90 => ?_) (fun c90 => ?_)
      · rw [if_pos (show v84.1 = 0 from c90)] at h
        refine go_iconst (pc' := 411) dX11_write_410 rfl (r32_c rfl) ?_
        cases h
        exact k87J
      · rw [if_neg (show ¬ (v84.1 = 0) from c90)] at h
        refine go_iconst (pc' := 407) dX11_write_406 rfl (r32_c rfl) ?_
        refine go_goto (t := 411) dX11_write_407 rfl ?_
        cases h
        exact k87J

set_option maxRecDepth 10000 in
theorem l_M_write (d : Nat) (n e : Nat) (σ : Hp) (x1 : Int) (x2 : Int) (x3 : Int) (x4 : Int) (x5 : Int) (x6 : Int) (r : Int × Hp) (h : f_M_write σ x1 x2 x3 x4 x5 x6 = some r) : Ev (d + 7) 230 [pvR 11 0 129, pvI x1, pvI x2, pvI x3, pvI x4, pvI x5, pvI x6] (true, n, e, σ) (0, some (pvI r.1), true, n, e, r.2) := by
  unfold f_M_write at h
  refine Ev.of mtE230 rfl rfl rfl rfl ?_
  show Go none (Ev (d + 6)) mt230 0 [some (pvR 11 0 129), some (pvI x1), some (pvI x2), some (pvI x3), some (pvI x4), some (pvI x5), some (pvI x6), none, none, none, none, none, none, none] [] (true, n, e, σ) (0, some (pvI r.1), true, n, e, r.2)
  refine go_aload_n (pc' := 1) dX11_write_0 rfl rfl (Nat.le_of_ble_eq_true rfl) ?_
  refine go_iload_n (pc' := 2) dX11_write_1 rfl rfl ?_
  refine go_iload_n (pc' := 3) dX11_write_2 rfl rfl ?_
  refine go_iload_n (pc' := 4) dX11_write_3 rfl rfl ?_
  refine go_iload (pc' := 6) dX11_write_4 rfl rfl ?_
  obtain ⟨v1, k2, h⟩ := bd h
  have k2 := l_M_areThere (d + 2) n e σ x1 x2 x3 x4 _ k2
  refine go_call (kc := 196) (Mc := mt196) (v := some (pvI v1)) (w' := (true, n, e, σ)) (pc' := 9) (st' := [pvI v1]) [pvR 11 0 129, pvI x1, pvI x2, pvI x3, pvI x4] [] (Or.inl rfl) dX11_write_6 rfl rm_11_233 mtE196 rfl rfl rfl (Nat.le_of_ble_eq_true rfl) (Or.inr ⟨_, _, 129, rfl, Or.inl rfl⟩) k2 rfl ?_
  refine go_istore (L' := [some (pvR 11 0 129), some (pvI x1), some (pvI x2), some (pvI x3), some (pvI x4), some (pvI x5), some (pvI x6), some (pvI v1), none, none, none, none, none, none]) (pc' := 11) dX11_write_9 rfl (Nat.le_of_ble_eq_true rfl) rfl ?_
  refine go_aload_n (pc' := 12) dX11_write_11 rfl rfl (Nat.le_of_ble_eq_true rfl) ?_
  refine go_iload (pc' := 14) dX11_write_12 rfl rfl ?_
  refine go_i2l (pc' := 15) dX11_write_14 rfl ?_
  refine go_lconst (z := 0) (pc' := 16) dX11_write_15 rfl rfl ?_
  refine go_ldc2 (pc' := 19) dX11_write_16 rfl (r64_c rfl) rc_11_215 ?_
  obtain ⟨v3, k4, h⟩ := bd h
  have k4 := l_M_in (d + 5) n e σ x5 0 1000000 _ k4
  refine go_call (kc := 172) (Mc := mt172) (v := some (pvI v3)) (w' := (true, n, e, σ)) (pc' := 22) (st' := [pvI v3]) [pvR 11 0 129, pvL x5, pvL 0, pvL 1000000] [] (Or.inl rfl) dX11_write_19 rfl rm_11_145 mtE172 rfl rfl rfl (Nat.le_of_ble_eq_true rfl) (Or.inr ⟨_, _, 129, rfl, Or.inl rfl⟩) k4 rfl ?_
  obtain ⟨j5, k6, h⟩ := bd h
  have k6J : Go none (Ev (d + 6)) mt230 44 [some (pvR 11 0 129), some (pvI x1), some (pvI x2), some (pvI x3), some (pvI x4), some (pvI x5), some (pvI x6), some (pvI v1), none, none, none, none, none, none] [pvI j5] (true, n, e, σ) (0, some (pvI r.1), true, n, e, r.2) := by
    refine go_istore (L' := [some (pvR 11 0 129), some (pvI x1), some (pvI x2), some (pvI x3), some (pvI x4), some (pvI x5), some (pvI x6), some (pvI v1), some (pvI j5), none, none, none, none, none]) (pc' := 46) dX11_write_44 rfl (Nat.le_of_ble_eq_true rfl) rfl ?_
    refine go_iload (pc' := 48) dX11_write_46 rfl rfl ?_
    obtain ⟨j10, k11, h⟩ := bd h
    have k11J : Go none (Ev (d + 6)) mt230 112 [some (pvR 11 0 129), some (pvI x1), some (pvI x2), some (pvI x3), some (pvI x4), some (pvI x5), some (pvI x6), some (pvI v1), some (pvI j5), none, none, none, none, none] [pvI j10] (true, n, e, σ) (0, some (pvI r.1), true, n, e, r.2) := by
      refine go_istore (L' := [some (pvR 11 0 129), some (pvI x1), some (pvI x2), some (pvI x3), some (pvI x4), some (pvI x5), some (pvI x6), some (pvI v1), some (pvI j5), some (pvI j10), none, none, none, none]) (pc' := 114) dX11_write_112 rfl (Nat.le_of_ble_eq_true rfl) rfl ?_
      refine go_iload (pc' := 116) dX11_write_114 rfl rfl ?_
      obtain ⟨j25, k26, h⟩ := bd h
      have k26J : Go none (Ev (d + 6)) mt230 142 [some (pvR 11 0 129), some (pvI x1), some (pvI x2), some (pvI x3), some (pvI x4), some (pvI x5), some (pvI x6), some (pvI v1), some (pvI j5), some (pvI j10), none, none, none, none] [pvI j25.1] (true, n, e, j25.2) (0, some (pvI r.1), true, n, e, r.2) := by
        refine go_istore (L' := [some (pvR 11 0 129), some (pvI x1), some (pvI x2), some (pvI x3), some (pvI x4), some (pvI x5), some (pvI x6), some (pvI v1), some (pvI j5), some (pvI j10), some (pvI j25.1), none, none, none]) (pc' := 144) dX11_write_142 rfl (Nat.le_of_ble_eq_true rfl) rfl ?_
        refine go_iload (pc' := 146) dX11_write_144 rfl rfl ?_
        obtain ⟨j31, k32, h⟩ := bd h
        have k32J : Go none (Ev (d + 6)) mt230 193 [some (pvR 11 0 129), some (pvI x1), some (pvI x2), some (pvI x3), some (pvI x4), some (pvI x5), some (pvI x6), some (pvI v1), some (pvI j5), some (pvI j10), some (pvI j25.1), none, none, none] [] (true, n, e, j31) (0, some (pvI r.1), true, n, e, r.2) := by
          refine go_iconst (pc' := 194) dX11_write_193 rfl (r32_c rfl) ?_
          refine go_istore (L' := [some (pvR 11 0 129), some (pvI x1), some (pvI x2), some (pvI x3), some (pvI x4), some (pvI x5), some (pvI x6), some (pvI v1), some (pvI j5), some (pvI j10), some (pvI j25.1), some (pvI 0), none, none]) (pc' := 196) dX11_write_194 rfl (Nat.le_of_ble_eq_true rfl) rfl ?_
          obtain ⟨j52, k53, h⟩ := bd h
          refine l_M_write_196 d n e x1 x2 x3 x4 x5 x6 j5 v1 j25 j31 zFuel j10 0 _ k53 ?_
          refine go_iload (pc' := 241) dX11_write_239 rfl rfl ?_
          refine go_iload (pc' := 243) dX11_write_241 rfl rfl ?_
          obtain ⟨j54, k55, h⟩ := bd h
          have k55J : Go none (Ev (d + 6)) mt230 297 [some (pvR 11 0 129), some (pvI x1), some (pvI x2), some (pvI x3), some (pvI x4), some (pvI x5), some (pvI x6), some (pvI v1), some (pvI j5), some (pvI j52.1), some (pvI j25.1), some (pvI j52.2), none, none] [pvI j54, pvI j52.1] (true, n, e, j31) (0, some (pvI r.1), true, n, e, r.2) := by
            refine go_ior (pc' := 298) dX11_write_297 rfl ?_
            refine go_istore (L' := [some (pvR 11 0 129), some (pvI x1), some (pvI x2), some (pvI x3), some (pvI x4), some (pvI x5), some (pvI x6), some (pvI v1), some (pvI j5), some (pvI (ior j52.1 j54)), some (pvI j25.1), some (pvI j52.2), none, none]) (pc' := 300) dX11_write_298 rfl (Nat.le_of_ble_eq_true rfl) rfl ?_
            refine go_aload_n (pc' := 301) dX11_write_300 rfl rfl (Nat.le_of_ble_eq_true rfl) ?_
            refine go_iload (pc' := 303) dX11_write_301 rfl rfl ?_
            obtain ⟨j68, k69, h⟩ := bd h
            have k69J : Go none (Ev (d + 6)) mt230 329 [some (pvR 11 0 129), some (pvI x1), some (pvI x2), some (pvI x3), some (pvI x4), some (pvI x5), some (pvI x6), some (pvI v1), some (pvI j5), some (pvI (ior j52.1 j54)), some (pvI j25.1), some (pvI j52.2), none, none] [pvI j68, pvR 11 0 129] (true, n, e, j31) (0, some (pvI r.1), true, n, e, r.2) := by
              obtain ⟨v72, k73, h⟩ := bd h
              have k73 := l_M_holds (d + 5) n e j31 j68 _ k73
              refine go_call (kc := 174) (Mc := mt174) (v := some (pvI v72.1)) (w' := (true, n, e, v72.2)) (pc' := 332) (st' := [pvI v72.1]) [pvR 11 0 129, pvI j68] [] (Or.inl rfl) dX11_write_329 rfl rm_11_185 mtE174 rfl rfl rfl (Nat.le_of_ble_eq_true rfl) (Or.inr ⟨_, _, 129, rfl, Or.inl rfl⟩) k73 rfl ?_
              refine go_if_eq (t := 337) (pc' := 335) dX11_write_332 rfl rfl (fun c100 => ?_) (fun c100 => ?_)
              · rw [if_pos (show v72.1 = 0 from c100)] at h
                refine go_iconst (pc' := 338) dX11_write_337 rfl (r32_c rfl) ?_
                refine go_istore (L' := [some (pvR 11 0 129), some (pvI x1), some (pvI x2), some (pvI x3), some (pvI x4), some (pvI x5), some (pvI x6), some (pvI v1), some (pvI j5), some (pvI (ior j52.1 j54)), some (pvI j25.1), some (pvI 0), none, none]) (pc' := 340) dX11_write_338 rfl (Nat.le_of_ble_eq_true rfl) rfl ?_
                refine go_iconst (pc' := 341) dX11_write_340 rfl (r32_c rfl) ?_
                refine go_istore (L' := [some (pvR 11 0 129), some (pvI x1), some (pvI x2), some (pvI x3), some (pvI x4), some (pvI x5), some (pvI x6), some (pvI v1), some (pvI j5), some (pvI (ior j52.1 j54)), some (pvI j25.1), some (pvI 0), some (pvI 0), none]) (pc' := 343) dX11_write_341 rfl (Nat.le_of_ble_eq_true rfl) rfl ?_
                obtain ⟨j93, k94, h⟩ := bd h
                refine l_M_write_343 d n e x1 x2 x3 x4 x5 x6 j5 v1 j25 j52 j54 zFuel 0 0 v72.2 _ k94 ?_
                refine go_iload (pc' := 422) dX11_write_420 rfl rfl ?_
                obtain ⟨j95, k96, h⟩ := bd h
                have k96J : Go none (Ev (d + 6)) mt230 441 [some (pvR 11 0 129), some (pvI x1), some (pvI x2), some (pvI x3), some (pvI x4), some (pvI x5), some (pvI x6), some (pvI v1), some (pvI j5), some (pvI (ior j52.1 j54)), some (pvI j25.1), some (pvI j95.1), some (pvI j93.2.1), none] [] (true, n, e, j95.2) (0, some (pvI r.1), true, n, e, r.2) := by
                  refine go_iload (pc' := 443) dX11_write_441 rfl rfl ?_
                  cases h
                  exact go_iret dX11_write_443 rfl rfl
                clear h
                have h := k96
                refine go_if_ne (t := 441) (pc' := 425) dX11_write_422 rfl rfl (fun c99 => ?_) (fun c99 => ?_)
                · rw [if_pos (show j25.1 ≠ 0 from c99)] at h
                  cases h
                  exact k96J
                · rw [if_neg (show ¬ (j25.1 ≠ 0) from c99)] at h
                  refine go_aload_n (pc' := 426) dX11_write_425 rfl rfl (Nat.le_of_ble_eq_true rfl) ?_
                  refine go_iconst (pc' := 427) dX11_write_426 rfl (r32_c rfl) ?_
                  refine go_iload_n (pc' := 428) dX11_write_427 rfl rfl ?_
                  refine go_iload_n (pc' := 429) dX11_write_428 rfl rfl ?_
                  refine go_iload_n (pc' := 430) dX11_write_429 rfl rfl ?_
                  refine go_iload (pc' := 432) dX11_write_430 rfl rfl ?_
                  refine go_iload (pc' := 434) dX11_write_432 rfl rfl ?_
                  obtain ⟨v97, k98, h⟩ := bd h
                  have k98 := l_M_put (d + 0) n e j93.2.2 (-1) x1 x2 x3 x4 x5 _ k98
                  refine go_call (kc := 198) (Mc := mt198) (v := some (pvI v97.1)) (w' := (true, n, e, v97.2)) (pc' := 437) (st' := [pvI v97.1]) [pvR 11 0 129, pvI (-1), pvI x1, pvI x2, pvI x3, pvI x4, pvI x5] [] (Or.inl rfl) dX11_write_434 rfl rm_11_241 mtE198 rfl rfl rfl (Nat.le_of_ble_eq_true rfl) (Or.inr ⟨_, _, 129, rfl, Or.inl rfl⟩) k98 rfl ?_
                  refine go_pop (pc' := 438) dX11_write_437 rfl (Nat.ne_of_beq_eq_false rfl) ?_
                  refine go_iconst (pc' := 439) dX11_write_438 rfl (r32_c rfl) ?_
                  refine go_istore (L' := [some (pvR 11 0 129), some (pvI x1), some (pvI x2), some (pvI x3), some (pvI x4), some (pvI x5), some (pvI x6), some (pvI v1), some (pvI j5), some (pvI (ior j52.1 j54)), some (pvI j25.1), some (pvI 1), some (pvI j93.2.1), none]) (pc' := 441) dX11_write_439 rfl (Nat.le_of_ble_eq_true rfl) rfl ?_
                  cases h
                  exact k96J
              · rw [if_neg (show ¬ (v72.1 = 0) from c100)] at h
                refine go_iconst (pc' := 336) dX11_write_335 rfl (r32_c rfl) ?_
                cases h
                exact go_iret dX11_write_336 rfl rfl
            clear h
            have h := k69
            refine go_if_ne (t := 310) (pc' := 306) dX11_write_303 rfl rfl (fun c101 => ?_) (fun c101 => ?_)
            · rw [if_pos (show v1 ≠ 0 from c101)] at h
              refine go_iload (pc' := 312) dX11_write_310 rfl rfl ?_
              refine go_if_ne (t := 319) (pc' := 315) dX11_write_312 rfl rfl (fun c71 => ?_) (fun c71 => ?_)
              · rw [if_pos (show j5 ≠ 0 from c71)] at h
                refine go_iload (pc' := 321) dX11_write_319 rfl rfl ?_
                refine go_if_eq (t := 328) (pc' := 324) dX11_write_321 rfl rfl (fun c70 => ?_) (fun c70 => ?_)
                · rw [if_pos (show (ior j52.1 j54) = 0 from c70)] at h
                  refine go_iconst (pc' := 329) dX11_write_328 rfl (r32_c rfl) ?_
                  cases h
                  exact k69J
                · rw [if_neg (show ¬ ((ior j52.1 j54) = 0) from c70)] at h
                  refine go_iconst (pc' := 325) dX11_write_324 rfl (r32_c rfl) ?_
                  refine go_goto (t := 329) dX11_write_325 rfl ?_
                  cases h
                  exact k69J
              · rw [if_neg (show ¬ (j5 ≠ 0) from c71)] at h
                refine go_iconst (pc' := 316) dX11_write_315 rfl (r32_c rfl) ?_
                refine go_goto (t := 329) dX11_write_316 rfl ?_
                cases h
                exact k69J
            · rw [if_neg (show ¬ (v1 ≠ 0) from c101)] at h
              refine go_iconst (pc' := 307) dX11_write_306 rfl (r32_c rfl) ?_
              refine go_goto (t := 329) dX11_write_307 rfl ?_
              cases h
              exact k69J
          clear h
          have h := k55
          refine go_if_lt (t := 292) (pc' := 246) dX11_write_243 rfl rfl (fun c102 => ?_) (fun c102 => ?_)
          · rw [if_pos (show j25.1 < 0 from c102)] at h
            refine go_iconst (pc' := 293) dX11_write_292 rfl (r32_c rfl) ?_
            refine go_goto (t := 297) dX11_write_293 rfl ?_
            cases h
            exact k55J
          · rw [if_neg (show ¬ (j25.1 < 0) from c102)] at h
            refine go_iload (pc' := 248) dX11_write_246 rfl rfl ?_
            refine go_if_eq (t := 296) (pc' := 251) dX11_write_248 rfl rfl (fun c67 => ?_) (fun c67 => ?_)
            · rw [if_pos (show v1 = 0 from c67)] at h
              refine go_iconst (pc' := 297) dX11_write_296 rfl (r32_c rfl) ?_
              cases h
              exact k55J
            · rw [if_neg (show ¬ (v1 = 0) from c67)] at h
              refine go_iload (pc' := 253) dX11_write_251 rfl rfl ?_
              refine go_if_ne (t := 296) (pc' := 256) dX11_write_253 rfl rfl (fun c66 => ?_) (fun c66 => ?_)
              · rw [if_pos (show j25.1 ≠ 0 from c66)] at h
                refine go_iconst (pc' := 297) dX11_write_296 rfl (r32_c rfl) ?_
                cases h
                exact k55J
              · rw [if_neg (show ¬ (j25.1 ≠ 0) from c66)] at h
                refine go_aload_n (pc' := 257) dX11_write_256 rfl rfl (Nat.le_of_ble_eq_true rfl) ?_
                refine go_iconst (pc' := 258) dX11_write_257 rfl (r32_c rfl) ?_
                refine go_iload_n (pc' := 259) dX11_write_258 rfl rfl ?_
                obtain ⟨v56, k57, h⟩ := bd h
                have k57 := l_M_isPlain (d + 5) n e j31 0 x1 _ k57
                refine go_call (kc := 173) (Mc := mt173) (v := some (pvI v56)) (w' := (true, n, e, j31)) (pc' := 262) (st' := [pvI v56, pvI j52.1]) [pvR 11 0 129, pvI 0, pvI x1] [pvI j52.1] (Or.inl rfl) dX11_write_259 rfl rm_11_180 mtE173 rfl rfl rfl (Nat.le_of_ble_eq_true rfl) (Or.inr ⟨_, _, 129, rfl, Or.inl rfl⟩) k57 rfl ?_
                refine go_if_eq (t := 292) (pc' := 265) dX11_write_262 rfl rfl (fun c65 => ?_) (fun c65 => ?_)
                · rw [if_pos (show v56 = 0 from c65)] at h
                  refine go_iconst (pc' := 293) dX11_write_292 rfl (r32_c rfl) ?_
                  refine go_goto (t := 297) dX11_write_293 rfl ?_
                  cases h
                  exact k55J
                · rw [if_neg (show ¬ (v56 = 0) from c65)] at h
                  refine go_aload_n (pc' := 266) dX11_write_265 rfl rfl (Nat.le_of_ble_eq_true rfl) ?_
                  refine go_iconst (pc' := 267) dX11_write_266 rfl (r32_c rfl) ?_
                  refine go_iload_n (pc' := 268) dX11_write_267 rfl rfl ?_
                  obtain ⟨v58, k59, h⟩ := bd h
                  have k59 := l_M_isPlain (d + 5) n e j31 1 x2 _ k59
                  refine go_call (kc := 173) (Mc := mt173) (v := some (pvI v58)) (w' := (true, n, e, j31)) (pc' := 271) (st' := [pvI v58, pvI j52.1]) [pvR 11 0 129, pvI 1, pvI x2] [pvI j52.1] (Or.inl rfl) dX11_write_268 rfl rm_11_180 mtE173 rfl rfl rfl (Nat.le_of_ble_eq_true rfl) (Or.inr ⟨_, _, 129, rfl, Or.inl rfl⟩) k59 rfl ?_
                  refine go_if_eq (t := 292) (pc' := 274) dX11_write_271 rfl rfl (fun c64 => ?_) (fun c64 => ?_)
                  · rw [if_pos (show v58 = 0 from c64)] at h
                    refine go_iconst (pc' := 293) dX11_write_292 rfl (r32_c rfl) ?_
                    refine go_goto (t := 297) dX11_write_293 rfl ?_
                    cases h
                    exact k55J
                  · rw [if_neg (show ¬ (v58 = 0) from c64)] at h
                    refine go_aload_n (pc' := 275) dX11_write_274 rfl rfl (Nat.le_of_ble_eq_true rfl) ?_
                    refine go_iconst (pc' := 276) dX11_write_275 rfl (r32_c rfl) ?_
                    refine go_iload_n (pc' := 277) dX11_write_276 rfl rfl ?_
                    obtain ⟨v60, k61, h⟩ := bd h
                    have k61 := l_M_isPlain (d + 5) n e j31 2 x3 _ k61
                    refine go_call (kc := 173) (Mc := mt173) (v := some (pvI v60)) (w' := (true, n, e, j31)) (pc' := 280) (st' := [pvI v60, pvI j52.1]) [pvR 11 0 129, pvI 2, pvI x3] [pvI j52.1] (Or.inl rfl) dX11_write_277 rfl rm_11_180 mtE173 rfl rfl rfl (Nat.le_of_ble_eq_true rfl) (Or.inr ⟨_, _, 129, rfl, Or.inl rfl⟩) k61 rfl ?_
                    refine go_if_eq (t := 292) (pc' := 283) dX11_write_280 rfl rfl (fun c63 => ?_) (fun c63 => ?_)
                    · rw [if_pos (show v60 = 0 from c63)] at h
                      refine go_iconst (pc' := 293) dX11_write_292 rfl (r32_c rfl) ?_
                      refine go_goto (t := 297) dX11_write_293 rfl ?_
                      cases h
                      exact k55J
                    · rw [if_neg (show ¬ (v60 = 0) from c63)] at h
                      refine go_aload_n (pc' := 284) dX11_write_283 rfl rfl (Nat.le_of_ble_eq_true rfl) ?_
                      refine go_getI (pc' := 287) dX11_write_284 rfl rf_11_230 rfl ?_
                      refine go_bipush (pc' := 289) dX11_write_287 rfl (r32_c rfl) (by decide) ?_
                      refine go_icmp_ne (t := 296) (pc' := 292) dX11_write_289 rfl rfl (fun c62 => ?_) (fun c62 => ?_)
                      · rw [if_pos (show (j31 129 29) ≠ 50 from c62)] at h
                        refine go_iconst (pc' := 297) dX11_write_296 rfl (r32_c rfl) ?_
                        cases h
                        exact k55J
                      · rw [if_neg (show ¬ ((j31 129 29) ≠ 50) from c62)] at h
                        refine go_iconst (pc' := 293) dX11_write_292 rfl (r32_c rfl) ?_
                        refine go_goto (t := 297) dX11_write_293 rfl ?_
                        cases h
                        exact k55J
        clear h
        have h := k32
        refine go_if_le (t := 193) (pc' := 149) dX11_write_146 rfl rfl (fun c103 => ?_) (fun c103 => ?_)
        · rw [if_pos (show j25.1 ≤ 0 from c103)] at h
          cases h
          exact k32J
        · rw [if_neg (show ¬ (j25.1 ≤ 0) from c103)] at h
          refine go_iload (pc' := 151) dX11_write_149 rfl rfl ?_
          refine go_if_ne (t := 166) (pc' := 154) dX11_write_151 rfl rfl (fun c40 => ?_) (fun c40 => ?_)
          · rw [if_pos (show x6 ≠ 0 from c40)] at h
            refine go_iload (pc' := 168) dX11_write_166 rfl rfl ?_
            refine go_iconst (pc' := 169) dX11_write_168 rfl (r32_c rfl) ?_
            refine go_icmp_ne (t := 184) (pc' := 172) dX11_write_169 rfl rfl (fun c37 => ?_) (fun c37 => ?_)
            · rw [if_pos (show x6 ≠ 1 from c37)] at h
              refine go_aload_n (pc' := 185) dX11_write_184 rfl rfl (Nat.le_of_ble_eq_true rfl) ?_
              refine go_iload (pc' := 187) dX11_write_185 rfl rfl ?_
              refine go_iload (pc' := 189) dX11_write_187 rfl rfl ?_
              refine go_i2l (pc' := 190) dX11_write_189 rfl ?_
              obtain ⟨v33, k34, h⟩ := bd h
              have k34 := l_M_remains (d + 5) n e j25.2 j25.1 x5 _ k34
              refine go_call (kc := 234) (Mc := mt234) (v := none) (w' := (true, n, e, v33)) (pc' := 193) (st' := []) [pvR 11 0 129, pvI j25.1, pvL x5] [] (Or.inl rfl) dX11_write_190 rfl rm_11_349 mtE234 rfl rfl rfl (Nat.le_of_ble_eq_true rfl) (Or.inr ⟨_, _, 129, rfl, Or.inl rfl⟩) k34 rfl ?_
              cases h
              exact k32J
            · rw [if_neg (show ¬ (x6 ≠ 1) from c37)] at h
              refine go_aload_n (pc' := 173) dX11_write_172 rfl rfl (Nat.le_of_ble_eq_true rfl) ?_
              refine go_iload (pc' := 175) dX11_write_173 rfl rfl ?_
              refine go_iload (pc' := 177) dX11_write_175 rfl rfl ?_
              refine go_i2l (pc' := 178) dX11_write_177 rfl ?_
              obtain ⟨v35, k36, h⟩ := bd h
              have k36 := l_M_weights (d + 4) n e j25.2 j25.1 x5 _ k36
              refine go_call (kc := 233) (Mc := mt233) (v := none) (w' := (true, n, e, v35)) (pc' := 181) (st' := []) [pvR 11 0 129, pvI j25.1, pvL x5] [] (Or.inl rfl) dX11_write_178 rfl rm_11_346 mtE233 rfl rfl rfl (Nat.le_of_ble_eq_true rfl) (Or.inr ⟨_, _, 129, rfl, Or.inl rfl⟩) k36 rfl ?_
              refine go_goto (t := 193) dX11_write_181 rfl ?_
              cases h
              exact k32J
          · rw [if_neg (show ¬ (x6 ≠ 0) from c40)] at h
            refine go_aload_n (pc' := 155) dX11_write_154 rfl rfl (Nat.le_of_ble_eq_true rfl) ?_
            refine go_iload (pc' := 157) dX11_write_155 rfl rfl ?_
            refine go_iload (pc' := 159) dX11_write_157 rfl rfl ?_
            refine go_i2l (pc' := 160) dX11_write_159 rfl ?_
            obtain ⟨v38, k39, h⟩ := bd h
            have k39 := l_M_equal (d + 5) n e j25.2 j25.1 x5 _ k39
            refine go_call (kc := 232) (Mc := mt232) (v := none) (w' := (true, n, e, v38)) (pc' := 163) (st' := []) [pvR 11 0 129, pvI j25.1, pvL x5] [] (Or.inl rfl) dX11_write_160 rfl rm_11_339 mtE232 rfl rfl rfl (Nat.le_of_ble_eq_true rfl) (Or.inr ⟨_, _, 129, rfl, Or.inl rfl⟩) k39 rfl ?_
            refine go_goto (t := 193) dX11_write_163 rfl ?_
            cases h
            exact k32J
      clear h
      have h := k26
      refine go_if_eq (t := 141) (pc' := 119) dX11_write_116 rfl rfl (fun c104 => ?_) (fun c104 => ?_)
      · rw [if_pos (show v1 = 0 from c104)] at h
        refine go_iconst (pc' := 142) dX11_write_141 rfl (r32_c rfl) ?_
        cases h
        exact k26J
      · rw [if_neg (show ¬ (v1 = 0) from c104)] at h
        refine go_iload (pc' := 121) dX11_write_119 rfl rfl ?_
        refine go_if_eq (t := 141) (pc' := 124) dX11_write_121 rfl rfl (fun c30 => ?_) (fun c30 => ?_)
        · rw [if_pos (show j5 = 0 from c30)] at h
          refine go_iconst (pc' := 142) dX11_write_141 rfl (r32_c rfl) ?_
          cases h
          exact k26J
        · rw [if_neg (show ¬ (j5 = 0) from c30)] at h
          refine go_iload (pc' := 126) dX11_write_124 rfl rfl ?_
          refine go_if_ne (t := 141) (pc' := 129) dX11_write_126 rfl rfl (fun c29 => ?_) (fun c29 => ?_)
          · rw [if_pos (show j10 ≠ 0 from c29)] at h
            refine go_iconst (pc' := 142) dX11_write_141 rfl (r32_c rfl) ?_
            cases h
            exact k26J
          · rw [if_neg (show ¬ (j10 ≠ 0) from c29)] at h
            refine go_aload_n (pc' := 130) dX11_write_129 rfl rfl (Nat.le_of_ble_eq_true rfl) ?_
            refine go_iload_n (pc' := 131) dX11_write_130 rfl rfl ?_
            refine go_iload_n (pc' := 132) dX11_write_131 rfl rfl ?_
            refine go_iload_n (pc' := 133) dX11_write_132 rfl rfl ?_
            refine go_iload (pc' := 135) dX11_write_133 rfl rfl ?_
            obtain ⟨v27, k28, h⟩ := bd h
            have k28 := l_M_spots (d + 1) n e σ x1 x2 x3 x4 _ k28
            refine go_call (kc := 231) (Mc := mt231) (v := some (pvI v27.1)) (w' := (true, n, e, v27.2)) (pc' := 138) (st' := [pvI v27.1]) [pvR 11 0 129, pvI x1, pvI x2, pvI x3, pvI x4] [] (Or.inl rfl) dX11_write_135 rfl rm_11_343 mtE231 rfl rfl rfl (Nat.le_of_ble_eq_true rfl) (Or.inr ⟨_, _, 129, rfl, Or.inl rfl⟩) k28 rfl ?_
            refine go_goto (t := 142) dX11_write_138 rfl ?_
            cases h
            exact k26J
    clear h
    have h := k11
    refine go_if_eq (t := 111) (pc' := 51) dX11_write_48 rfl rfl (fun c105 => ?_) (fun c105 => ?_)
    · rw [if_pos (show v1 = 0 from c105)] at h
      refine go_iconst (pc' := 112) dX11_write_111 rfl (r32_c rfl) ?_
      cases h
      exact k11J
    · rw [if_neg (show ¬ (v1 = 0) from c105)] at h
      refine go_aload_n (pc' := 52) dX11_write_51 rfl rfl (Nat.le_of_ble_eq_true rfl) ?_
      refine go_getR (k' := 12) (L0 := 4) (P' := 146) (pc' := 55) dX11_write_52 rfl rf_11_60 rfl rfl (by omega) ?_
      refine go_iload (pc' := 57) dX11_write_55 rfl rfl ?_
      obtain ⟨g12, h⟩ := gd h
      refine go_iald (pc' := 58) dX11_write_57 rfl g12 ?_
      refine go_if_ne (t := 107) (pc' := 61) dX11_write_58 rfl rfl (fun c24 => ?_) (fun c24 => ?_)
      · rw [if_pos (show (σ 146 x4) ≠ 0 from c24)] at h
        refine go_iconst (pc' := 108) dX11_write_107 rfl (r32_c rfl) ?_
        refine go_goto (t := 112) dX11_write_108 rfl ?_
        cases h
        exact k11J
      · rw [if_neg (show ¬ ((σ 146 x4) ≠ 0) from c24)] at h
        refine go_aload_n (pc' := 62) dX11_write_61 rfl rfl (Nat.le_of_ble_eq_true rfl) ?_
        refine go_iload_n (pc' := 63) dX11_write_62 rfl rfl ?_
        refine go_iload_n (pc' := 64) dX11_write_63 rfl rfl ?_
        refine go_iload_n (pc' := 65) dX11_write_64 rfl rfl ?_
        obtain ⟨v13, k14, h⟩ := bd h
        have k14 := l_M_areSeen (d + 2) n e σ x1 x2 x3 _ k14
        refine go_call (kc := 208) (Mc := mt208) (v := some (pvI v13)) (w' := (true, n, e, σ)) (pc' := 68) (st' := [pvI v13]) [pvR 11 0 129, pvI x1, pvI x2, pvI x3] [] (Or.inl rfl) dX11_write_65 rfl rm_11_311 mtE208 rfl rfl rfl (Nat.le_of_ble_eq_true rfl) (Or.inr ⟨_, _, 129, rfl, Or.inl rfl⟩) k14 rfl ?_
        refine go_if_eq (t := 107) (pc' := 71) dX11_write_68 rfl rfl (fun c23 => ?_) (fun c23 => ?_)
        · rw [if_pos (show v13 = 0 from c23)] at h
          refine go_iconst (pc' := 108) dX11_write_107 rfl (r32_c rfl) ?_
          refine go_goto (t := 112) dX11_write_108 rfl ?_
          cases h
          exact k11J
        · rw [if_neg (show ¬ (v13 = 0) from c23)] at h
          refine go_aload_n (pc' := 72) dX11_write_71 rfl rfl (Nat.le_of_ble_eq_true rfl) ?_
          refine go_getR (k' := 12) (L0 := 36) (P' := 131) (pc' := 75) dX11_write_72 rfl rf_11_15 rfl rfl (by omega) ?_
          refine go_iload_n (pc' := 76) dX11_write_75 rfl rfl ?_
          obtain ⟨g15, h⟩ := gd h
          refine go_iald (pc' := 77) dX11_write_76 rfl g15 ?_
          refine go_iconst (pc' := 78) dX11_write_77 rfl (r32_c rfl) ?_
          refine go_icmp_eq (t := 107) (pc' := 81) dX11_write_78 rfl rfl (fun c22 => ?_) (fun c22 => ?_)
          · rw [if_pos (show (σ 131 x1) = 2 from c22)] at h
            refine go_iconst (pc' := 108) dX11_write_107 rfl (r32_c rfl) ?_
            refine go_goto (t := 112) dX11_write_108 rfl ?_
            cases h
            exact k11J
          · rw [if_neg (show ¬ ((σ 131 x1) = 2) from c22)] at h
            refine go_aload_n (pc' := 82) dX11_write_81 rfl rfl (Nat.le_of_ble_eq_true rfl) ?_
            refine go_getR (k' := 12) (L0 := 36) (P' := 131) (pc' := 85) dX11_write_82 rfl rf_11_15 rfl rfl (by omega) ?_
            refine go_bipush (pc' := 87) dX11_write_85 rfl (r32_c rfl) (by decide) ?_
            refine go_iload_n (pc' := 88) dX11_write_87 rfl rfl ?_
            obtain ⟨g16, h⟩ := gd h
            refine go_iadd (pc' := 89) dX11_write_88 rfl g16 ?_
            obtain ⟨g17, h⟩ := gd h
            refine go_iald (pc' := 90) dX11_write_89 rfl g17 ?_
            refine go_iconst (pc' := 91) dX11_write_90 rfl (r32_c rfl) ?_
            refine go_icmp_eq (t := 107) (pc' := 94) dX11_write_91 rfl rfl (fun c21 => ?_) (fun c21 => ?_)
            · rw [if_pos (show (σ 131 (12 + x2)) = 2 from c21)] at h
              refine go_iconst (pc' := 108) dX11_write_107 rfl (r32_c rfl) ?_
              refine go_goto (t := 112) dX11_write_108 rfl ?_
              cases h
              exact k11J
            · rw [if_neg (show ¬ ((σ 131 (12 + x2)) = 2) from c21)] at h
              refine go_aload_n (pc' := 95) dX11_write_94 rfl rfl (Nat.le_of_ble_eq_true rfl) ?_
              refine go_getR (k' := 12) (L0 := 36) (P' := 131) (pc' := 98) dX11_write_95 rfl rf_11_15 rfl rfl (by omega) ?_
              refine go_bipush (pc' := 100) dX11_write_98 rfl (r32_c rfl) (by decide) ?_
              refine go_iload_n (pc' := 101) dX11_write_100 rfl rfl ?_
              obtain ⟨g18, h⟩ := gd h
              refine go_iadd (pc' := 102) dX11_write_101 rfl g18 ?_
              obtain ⟨g19, h⟩ := gd h
              refine go_iald (pc' := 103) dX11_write_102 rfl g19 ?_
              refine go_iconst (pc' := 104) dX11_write_103 rfl (r32_c rfl) ?_
              refine go_icmp_ne (t := 111) (pc' := 107) dX11_write_104 rfl rfl (fun c20 => ?_) (fun c20 => ?_)
              · rw [if_pos (show (σ 131 (24 + x3)) ≠ 2 from c20)] at h
                refine go_iconst (pc' := 112) dX11_write_111 rfl (r32_c rfl) ?_
                cases h
                exact k11J
              · rw [if_neg (show ¬ ((σ 131 (24 + x3)) ≠ 2) from c20)] at h
                refine go_iconst (pc' := 108) dX11_write_107 rfl (r32_c rfl) ?_
                refine go_goto (t := 112) dX11_write_108 rfl ?_
                cases h
                exact k11J
  clear h
  have h := k6
  refine go_if_eq (t := 43) (pc' := 25) dX11_write_22 rfl rfl (fun c106 => ?_) (fun c106 => ?_)
  · rw [if_pos (show v3 = 0 from c106)] at h
    refine go_iconst (pc' := 44) dX11_write_43 rfl (r32_c rfl) ?_
    cases h
    exact k6J
  · rw [if_neg (show ¬ (v3 = 0) from c106)] at h
    refine go_aload_n (pc' := 26) dX11_write_25 rfl rfl (Nat.le_of_ble_eq_true rfl) ?_
    refine go_iload (pc' := 28) dX11_write_26 rfl rfl ?_
    refine go_i2l (pc' := 29) dX11_write_28 rfl ?_
    refine go_lconst (z := 0) (pc' := 30) dX11_write_29 rfl rfl ?_
    refine go_ldc2 (pc' := 33) dX11_write_30 rfl (r64_c rfl) rc_11_143 ?_
    obtain ⟨v7, k8, h⟩ := bd h
    have k8 := l_M_in (d + 5) n e σ x6 0 2 _ k8
    refine go_call (kc := 172) (Mc := mt172) (v := some (pvI v7)) (w' := (true, n, e, σ)) (pc' := 36) (st' := [pvI v7]) [pvR 11 0 129, pvL x6, pvL 0, pvL 2] [] (Or.inl rfl) dX11_write_33 rfl rm_11_145 mtE172 rfl rfl rfl (Nat.le_of_ble_eq_true rfl) (Or.inr ⟨_, _, 129, rfl, Or.inl rfl⟩) k8 rfl ?_
    refine go_if_eq (t := 43) (pc' := 39) dX11_write_36 rfl rfl (fun c9 => ?_) (fun c9 => ?_)
    · rw [if_pos (show v7 = 0 from c9)] at h
      refine go_iconst (pc' := 44) dX11_write_43 rfl (r32_c rfl) ?_
      cases h
      exact k6J
    · rw [if_neg (show ¬ (v7 = 0) from c9)] at h
      refine go_iconst (pc' := 40) dX11_write_39 rfl (r32_c rfl) ?_
      refine go_goto (t := 44) dX11_write_40 rfl ?_
      cases h
      exact k6J

set_option maxRecDepth 10000 in
theorem l_M_begin_29 (d : Nat) (n : Nat) (e : Nat)  {out : Out} : ∀ (F : Nat) (y7 : Int) (σ8 : Hp) (j21 : Int × Hp), f_M_begin_29 F y7 σ8 = some j21 → Go none (Ev (d + 1)) mt235 103 [some (pvR 11 0 129), some (pvI j21.1)] [] (true, n, e, j21.2) out → Go none (Ev (d + 1)) mt235 29 [some (pvR 11 0 129), some (pvI y7)] [] (true, n, e, σ8) out := by
  intro F
  induction F with
  | zero =>
    intro _ _ _ h
    intro _
    rw [f_M_begin_29] at h
    cases h
  | succ F ih =>
    intro y7 σ8 j21 h hx
    rw [f_M_begin_29] at h
    refine go_iload_n (pc' := 30) dX11_begin_29 rfl rfl ?_
    refine go_aload_n (pc' := 31) dX11_begin_30 rfl rfl (Nat.le_of_ble_eq_true rfl) ?_
    refine go_getI (pc' := 34) dX11_begin_31 rfl rf_11_230 rfl ?_
    refine go_icmp_ge (t := 103) (pc' := 37) dX11_begin_34 rfl rfl (fun c20 => ?_) (fun c20 => ?_)
    · rw [if_pos (show (σ8 129 29) ≤ y7 from c20)] at h
      cases h
      exact hx
    · rw [if_neg (show ¬ ((σ8 129 29) ≤ y7) from c20)] at h
      refine go_aload_n (pc' := 38) dX11_begin_37 rfl rfl (Nat.le_of_ble_eq_true rfl) ?_
      refine go_getR (k' := 12) (L0 := 51) (P' := 155) (pc' := 41) dX11_begin_38 rfl rf_11_87 rfl rfl (by omega) ?_
      refine go_iload_n (pc' := 42) dX11_begin_41 rfl rfl ?_
      refine go_aload_n (pc' := 43) dX11_begin_42 rfl rfl (Nat.le_of_ble_eq_true rfl) ?_
      refine go_getR (k' := 12) (L0 := 51) (P' := 150) (pc' := 46) dX11_begin_43 rfl rf_11_72 rfl rfl (by omega) ?_
      refine go_iload_n (pc' := 47) dX11_begin_46 rfl rfl ?_
      obtain ⟨g9, h⟩ := gd h
      refine go_iald (pc' := 48) dX11_begin_47 rfl g9 ?_
      obtain ⟨g10, h⟩ := gd h
      refine go_iast (pc' := 49) dX11_begin_48 rfl g10 ?_
      refine go_aload_n (pc' := 50) dX11_begin_49 rfl rfl (Nat.le_of_ble_eq_true rfl) ?_
      refine go_getR (k' := 12) (L0 := 51) (P' := 156) (pc' := 53) dX11_begin_50 rfl rf_11_90 rfl rfl (by omega) ?_
      refine go_iload_n (pc' := 54) dX11_begin_53 rfl rfl ?_
      refine go_aload_n (pc' := 55) dX11_begin_54 rfl rfl (Nat.le_of_ble_eq_true rfl) ?_
      refine go_getR (k' := 12) (L0 := 51) (P' := 151) (pc' := 58) dX11_begin_55 rfl rf_11_75 rfl rfl (by omega) ?_
      refine go_iload_n (pc' := 59) dX11_begin_58 rfl rfl ?_
      obtain ⟨g11, h⟩ := gd h
      refine go_iald (pc' := 60) dX11_begin_59 rfl g11 ?_
      obtain ⟨g12, h⟩ := gd h
      refine go_iast (pc' := 61) dX11_begin_60 rfl g12 ?_
      refine go_aload_n (pc' := 62) dX11_begin_61 rfl rfl (Nat.le_of_ble_eq_true rfl) ?_
      refine go_getR (k' := 12) (L0 := 51) (P' := 157) (pc' := 65) dX11_begin_62 rfl rf_11_93 rfl rfl (by omega) ?_
      refine go_iload_n (pc' := 66) dX11_begin_65 rfl rfl ?_
      refine go_aload_n (pc' := 67) dX11_begin_66 rfl rfl (Nat.le_of_ble_eq_true rfl) ?_
      refine go_getR (k' := 12) (L0 := 51) (P' := 152) (pc' := 70) dX11_begin_67 rfl rf_11_78 rfl rfl (by omega) ?_
      refine go_iload_n (pc' := 71) dX11_begin_70 rfl rfl ?_
      obtain ⟨g13, h⟩ := gd h
      refine go_iald (pc' := 72) dX11_begin_71 rfl g13 ?_
      obtain ⟨g14, h⟩ := gd h
      refine go_iast (pc' := 73) dX11_begin_72 rfl g14 ?_
      refine go_aload_n (pc' := 74) dX11_begin_73 rfl rfl (Nat.le_of_ble_eq_true rfl) ?_
      refine go_getR (k' := 12) (L0 := 51) (P' := 158) (pc' := 77) dX11_begin_74 rfl rf_11_96 rfl rfl (by omega) ?_
      refine go_iload_n (pc' := 78) dX11_begin_77 rfl rfl ?_
      refine go_aload_n (pc' := 79) dX11_begin_78 rfl rfl (Nat.le_of_ble_eq_true rfl) ?_
      refine go_getR (k' := 12) (L0 := 51) (P' := 153) (pc' := 82) dX11_begin_79 rfl rf_11_81 rfl rfl (by omega) ?_
      refine go_iload_n (pc' := 83) dX11_begin_82 rfl rfl ?_
      obtain ⟨g15, h⟩ := gd h
      refine go_iald (pc' := 84) dX11_begin_83 rfl g15 ?_
      obtain ⟨g16, h⟩ := gd h
      refine go_iast (pc' := 85) dX11_begin_84 rfl g16 ?_
      refine go_aload_n (pc' := 86) dX11_begin_85 rfl rfl (Nat.le_of_ble_eq_true rfl) ?_
      refine go_getR (k' := 12) (L0 := 51) (P' := 159) (pc' := 89) dX11_begin_86 rfl rf_11_99 rfl rfl (by omega) ?_
      refine go_iload_n (pc' := 90) dX11_begin_89 rfl rfl ?_
      refine go_aload_n (pc' := 91) dX11_begin_90 rfl rfl (Nat.le_of_ble_eq_true rfl) ?_
      refine go_getR (k' := 12) (L0 := 51) (P' := 154) (pc' := 94) dX11_begin_91 rfl rf_11_84 rfl rfl (by omega) ?_
      refine go_iload_n (pc' := 95) dX11_begin_94 rfl rfl ?_
      obtain ⟨g17, h⟩ := gd h
      refine go_iald (pc' := 96) dX11_begin_95 rfl g17 ?_
      obtain ⟨g18, h⟩ := gd h
      refine go_iast (pc' := 97) dX11_begin_96 rfl g18 ?_
      obtain ⟨g19, h⟩ := gd h
      refine go_iinc (L' := [some (pvR 11 0 129), some (pvI (y7 + 1))]) (pc' := 100) dX11_begin_97 rfl rfl g19 rfl ?_
      refine go_goto (t := 29) dX11_begin_100 rfl ?_
      exact ih (y7 + 1) (hset (hset (hset (hset (hset σ8 155 y7 (σ8 150 y7)) 156 y7 ((hset σ8 155 y7 (σ8 150 y7)) 151 y7)) 157 y7 ((hset (hset σ8 155 y7 (σ8 150 y7)) 156 y7 ((hset σ8 155 y7 (σ8 150 y7)) 151 y7)) 152 y7)) 158 y7 ((hset (hset (hset σ8 155 y7 (σ8 150 y7)) 156 y7 ((hset σ8 155 y7 (σ8 150 y7)) 151 y7)) 157 y7 ((hset (hset σ8 155 y7 (σ8 150 y7)) 156 y7 ((hset σ8 155 y7 (σ8 150 y7)) 151 y7)) 152 y7)) 153 y7)) 159 y7 ((hset (hset (hset (hset σ8 155 y7 (σ8 150 y7)) 156 y7 ((hset σ8 155 y7 (σ8 150 y7)) 151 y7)) 157 y7 ((hset (hset σ8 155 y7 (σ8 150 y7)) 156 y7 ((hset σ8 155 y7 (σ8 150 y7)) 151 y7)) 152 y7)) 158 y7 ((hset (hset (hset σ8 155 y7 (σ8 150 y7)) 156 y7 ((hset σ8 155 y7 (σ8 150 y7)) 151 y7)) 157 y7 ((hset (hset σ8 155 y7 (σ8 150 y7)) 156 y7 ((hset σ8 155 y7 (σ8 150 y7)) 151 y7)) 152 y7)) 153 y7)) 154 y7)) _ h hx

set_option maxRecDepth 10000 in
theorem l_M_begin (d : Nat) (n e : Nat) (σ : Hp) (r : Hp) (h : f_M_begin σ = some r) : Ev (d + 2) 235 [pvR 11 0 129] (true, n, e, σ) (0, none, true, n, e, r) := by
  unfold f_M_begin at h
  refine Ev.of mtE235 rfl rfl rfl rfl ?_
  show Go none (Ev (d + 1)) mt235 0 [some (pvR 11 0 129), none] [] (true, n, e, σ) (0, none, true, n, e, r)
  refine go_aload_n (pc' := 1) dX11_begin_0 rfl rfl (Nat.le_of_ble_eq_true rfl) ?_
  refine go_aload_n (pc' := 2) dX11_begin_1 rfl rfl (Nat.le_of_ble_eq_true rfl) ?_
  refine go_getI (pc' := 5) dX11_begin_2 rfl rf_11_102 rfl ?_
  obtain ⟨j1, k2, h⟩ := bd h
  have k2J : Go none (Ev (d + 1)) mt235 13 [some (pvR 11 0 129), none] [pvI j1, pvR 11 0 129] (true, n, e, σ) (0, none, true, n, e, r) := by
    obtain ⟨v3, k4, h⟩ := bd h
    have k4 := l_M_holds (d + 0) n e σ j1 _ k4
    refine go_call (kc := 174) (Mc := mt174) (v := some (pvI v3.1)) (w' := (true, n, e, v3.2)) (pc' := 16) (st' := [pvI v3.1]) [pvR 11 0 129, pvI j1] [] (Or.inl rfl) dX11_begin_13 rfl rm_11_185 mtE174 rfl rfl rfl (Nat.le_of_ble_eq_true rfl) (Or.inr ⟨_, _, 129, rfl, Or.inl rfl⟩) k4 rfl ?_
    obtain ⟨j5, k6, h⟩ := bd h
    have k6J : Go none (Ev (d + 1)) mt235 103 [some (pvR 11 0 129), none] [] (true, n, e, j5) (0, none, true, n, e, r) := by
      cases h
      exact go_vret dX11_begin_103 rfl rfl
    clear h
    have h := k6
    refine go_if_ne (t := 103) (pc' := 19) dX11_begin_16 rfl rfl (fun c24 => ?_) (fun c24 => ?_)
    · rw [if_pos (show v3.1 ≠ 0 from c24)] at h
      cases h
      exact k6J
    · rw [if_neg (show ¬ (v3.1 ≠ 0) from c24)] at h
      refine go_aload_n (pc' := 20) dX11_begin_19 rfl rfl (Nat.le_of_ble_eq_true rfl) ?_
      refine go_aload_n (pc' := 21) dX11_begin_20 rfl rfl (Nat.le_of_ble_eq_true rfl) ?_
      refine go_getI (pc' := 24) dX11_begin_21 rfl rf_11_230 rfl ?_
      refine go_putI (pc' := 27) dX11_begin_24 rfl rf_11_102 rfl ?_
      refine go_iconst (pc' := 28) dX11_begin_27 rfl (r32_c rfl) ?_
      refine go_istore_n (L' := [some (pvR 11 0 129), some (pvI 0)]) (pc' := 29) dX11_begin_28 rfl (Nat.le_of_ble_eq_true rfl) rfl ?_
      obtain ⟨j22, k23, h⟩ := bd h
      refine l_M_begin_29 d n e zFuel 0 (hset v3.2 129 35 (v3.2 129 29)) _ k23 ?_
      cases h
      exact go_sub k6J ⟨Or.inr rfl, Or.inl rfl, trivial⟩
  clear h
  have h := k2
  refine go_if_lt (t := 12) (pc' := 8) dX11_begin_5 rfl rfl (fun c25 => ?_) (fun c25 => ?_)
  · rw [if_pos (show (σ 129 35) < 0 from c25)] at h
    refine go_iconst (pc' := 13) dX11_begin_12 rfl (r32_c rfl) ?_
    cases h
    exact k2J
  · rw [if_neg (show ¬ ((σ 129 35) < 0) from c25)] at h
    refine go_iconst (pc' := 9) dX11_begin_8 rfl (r32_c rfl) ?_
    refine go_goto (t := 13) dX11_begin_9 rfl ?_
    cases h
    exact k2J

