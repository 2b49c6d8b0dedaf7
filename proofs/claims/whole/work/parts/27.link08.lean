/-! ===== links: each function is what its bytecode does ===== -/
set_option maxRecDepth 10000 in
theorem l_M_calculate_12 (d : Nat) (n : Nat) (e : Nat) (σ : Hp) (x1 : Int) (x2 : Int) (v1 : Int) {out : Out} : ∀ (F : Nat) (y3 : Int) (y4 : Int) (j25 : Int × Int), f_M_calculate_12 σ x1 v1 F y3 y4 = some j25 → Go none (Ev (d + 2)) mt189 94 [some (pvR 11 0 129), some (pvI x1), some (pvI x2), some (pvI v1), some (pvI j25.1), some (pvI j25.2), none, none] [] (true, n, e, σ) out → Go none (Ev (d + 2)) mt189 12 [some (pvR 11 0 129), some (pvI x1), some (pvI x2), some (pvI v1), some (pvI y3), some (pvI y4), none, none] [] (true, n, e, σ) out := by
  intro F
  induction F with
  | zero =>
    intro _ _ _ h
    intro _
    rw [f_M_calculate_12] at h
    cases h
  | succ F ih =>
    intro y3 y4 j25 h hx
    rw [f_M_calculate_12] at h
    refine go_iload (pc' := 14) dX11_calculate_12 rfl rfl ?_
    refine go_aload_n (pc' := 15) dX11_calculate_14 rfl rfl (Nat.le_of_ble_eq_true rfl) ?_
    refine go_getR (k' := 12) (L0 := 37) (P' := 140) (pc' := 18) dX11_calculate_15 rfl rf_11_42 rfl rfl (by omega) ?_
    refine go_bipush (pc' := 20) dX11_calculate_18 rfl (r32_c rfl) (by decide) ?_
    obtain ⟨g5, h⟩ := gd h
    refine go_iald (pc' := 21) dX11_calculate_20 rfl g5 ?_
    refine go_icmp_ge (t := 94) (pc' := 24) dX11_calculate_21 rfl rfl (fun c24 => ?_) (fun c24 => ?_)
    · rw [if_pos (show (σ 140 36) ≤ y4 from c24)] at h
      cases h
      exact hx
    · rw [if_neg (show ¬ ((σ 140 36) ≤ y4) from c24)] at h
      refine go_iload_n (pc' := 25) dX11_calculate_24 rfl rfl ?_
      refine go_if_eq (t := 94) (pc' := 28) dX11_calculate_25 rfl rfl (fun c23 => ?_) (fun c23 => ?_)
      · rw [if_pos (show v1 = 0 from c23)] at h
        cases h
        exact hx
      · rw [if_neg (show ¬ (v1 = 0) from c23)] at h
        refine go_iload (pc' := 30) dX11_calculate_28 rfl rfl ?_
        refine go_aload_n (pc' := 31) dX11_calculate_30 rfl rfl (Nat.le_of_ble_eq_true rfl) ?_
        refine go_getR (k' := 12) (L0 := 370) (P' := 137) (pc' := 34) dX11_calculate_31 rfl rf_11_33 rfl rfl (by omega) ?_
        refine go_sipush (pc' := 37) dX11_calculate_34 rfl (r32_c rfl) (by decide) ?_
        refine go_iload (pc' := 39) dX11_calculate_37 rfl rfl ?_
        obtain ⟨g6, h⟩ := gd h
        refine go_iadd (pc' := 40) dX11_calculate_39 rfl g6 ?_
        obtain ⟨g7, h⟩ := gd h
        refine go_iald (pc' := 41) dX11_calculate_40 rfl g7 ?_
        refine go_iconst (pc' := 42) dX11_calculate_41 rfl (r32_c rfl) ?_
        obtain ⟨j8, k9, h⟩ := bd h
        have k9J : Go none (Ev (d + 2)) mt189 85 [some (pvR 11 0 129), some (pvI x1), some (pvI x2), some (pvI v1), some (pvI y3), some (pvI y4), none, none] [pvI j8, pvI y3] (true, n, e, σ) out := by
          refine go_iand (pc' := 86) dX11_calculate_85 rfl ?_
          refine go_istore (L' := [some (pvR 11 0 129), some (pvI x1), some (pvI x2), some (pvI v1), some (pvI (iand y3 j8)), some (pvI y4), none, none]) (pc' := 88) dX11_calculate_86 rfl (Nat.le_of_ble_eq_true rfl) rfl ?_
          obtain ⟨g21, h⟩ := gd h
          refine go_iinc (L' := [some (pvR 11 0 129), some (pvI x1), some (pvI x2), some (pvI v1), some (pvI (iand y3 j8)), some (pvI (y4 + 1)), none, none]) (pc' := 91) dX11_calculate_88 rfl rfl g21 rfl ?_
          refine go_goto (t := 12) dX11_calculate_91 rfl ?_
          exact ih (iand y3 j8) (y4 + 1) _ h hx
        clear h
        have h := k9
        refine go_icmp_eq (t := 60) (pc' := 45) dX11_calculate_42 rfl rfl (fun c22 => ?_) (fun c22 => ?_)
        · rw [if_pos (show (σ 137 (360 + y4)) = 1 from c22)] at h
          refine go_aload_n (pc' := 61) dX11_calculate_60 rfl rfl (Nat.le_of_ble_eq_true rfl) ?_
          refine go_getR (k' := 12) (L0 := 370) (P' := 138) (pc' := 64) dX11_calculate_61 rfl rf_11_36 rfl rfl (by omega) ?_
          refine go_sipush (pc' := 67) dX11_calculate_64 rfl (r32_c rfl) (by decide) ?_
          refine go_iload (pc' := 69) dX11_calculate_67 rfl rfl ?_
          obtain ⟨g10, h⟩ := gd h
          refine go_iadd (pc' := 70) dX11_calculate_69 rfl g10 ?_
          obtain ⟨g11, h⟩ := gd h
          refine go_iald (pc' := 71) dX11_calculate_70 rfl g11 ?_
          refine go_aload_n (pc' := 72) dX11_calculate_71 rfl rfl (Nat.le_of_ble_eq_true rfl) ?_
          refine go_getR (k' := 12) (L0 := 3) (P' := 130) (pc' := 75) dX11_calculate_72 rfl rf_11_9 rfl rfl (by omega) ?_
          refine go_iload_n (pc' := 76) dX11_calculate_75 rfl rfl ?_
          obtain ⟨g12, h⟩ := gd h
          refine go_iald (pc' := 77) dX11_calculate_76 rfl g12 ?_
          refine go_icmp_ge (t := 84) (pc' := 80) dX11_calculate_77 rfl rfl (fun c13 => ?_) (fun c13 => ?_)
          · rw [if_pos (show (σ 130 x1) ≤ (σ 138 (360 + y4)) from c13)] at h
            refine go_iconst (pc' := 85) dX11_calculate_84 rfl (r32_c rfl) ?_
            cases h
            exact k9J
          · rw [if_neg (show ¬ ((σ 130 x1) ≤ (σ 138 (360 + y4))) from c13)] at h
            refine go_iconst (pc' := 81) dX11_calculate_80 rfl (r32_c rfl) ?_
            refine go_goto (t := 85) dX11_calculate_81 rfl ?_
            cases h
            exact k9J
        · rw [if_neg (show ¬ ((σ 137 (360 + y4)) = 1) from c22)] at h
          refine go_aload_n (pc' := 46) dX11_calculate_45 rfl rfl (Nat.le_of_ble_eq_true rfl) ?_
          refine go_getR (k' := 12) (L0 := 370) (P' := 137) (pc' := 49) dX11_calculate_46 rfl rf_11_33 rfl rfl (by omega) ?_
          refine go_sipush (pc' := 52) dX11_calculate_49 rfl (r32_c rfl) (by decide) ?_
          refine go_iload (pc' := 54) dX11_calculate_52 rfl rfl ?_
          obtain ⟨g14, h⟩ := gd h
          refine go_iadd (pc' := 55) dX11_calculate_54 rfl g14 ?_
          obtain ⟨g15, h⟩ := gd h
          refine go_iald (pc' := 56) dX11_calculate_55 rfl g15 ?_
          refine go_iconst (pc' := 57) dX11_calculate_56 rfl (r32_c rfl) ?_
          refine go_icmp_ne (t := 80) (pc' := 60) dX11_calculate_57 rfl rfl (fun c20 => ?_) (fun c20 => ?_)
          · rw [if_pos (show (σ 137 (360 + y4)) ≠ 2 from c20)] at h
            refine go_iconst (pc' := 81) dX11_calculate_80 rfl (r32_c rfl) ?_
            refine go_goto (t := 85) dX11_calculate_81 rfl ?_
            cases h
            exact k9J
          · rw [if_neg (show ¬ ((σ 137 (360 + y4)) ≠ 2) from c20)] at h
            refine go_aload_n (pc' := 61) dX11_calculate_60 rfl rfl (Nat.le_of_ble_eq_true rfl) ?_
            refine go_getR (k' := 12) (L0 := 370) (P' := 138) (pc' := 64) dX11_calculate_61 rfl rf_11_36 rfl rfl (by omega) ?_
            refine go_sipush (pc' := 67) dX11_calculate_64 rfl (r32_c rfl) (by decide) ?_
            refine go_iload (pc' := 69) dX11_calculate_67 rfl rfl ?_
            obtain ⟨g16, h⟩ := gd h
            refine go_iadd (pc' := 70) dX11_calculate_69 rfl g16 ?_
            obtain ⟨g17, h⟩ := gd h
            refine go_iald (pc' := 71) dX11_calculate_70 rfl g17 ?_
            refine go_aload_n (pc' := 72) dX11_calculate_71 rfl rfl (Nat.le_of_ble_eq_true rfl) ?_
            refine go_getR (k' := 12) (L0 := 3) (P' := 130) (pc' := 75) dX11_calculate_72 rfl rf_11_9 rfl rfl (by omega) ?_
            refine go_iload_n (pc' := 76) dX11_calculate_75 rfl rfl ?_
            obtain ⟨g18, h⟩ := gd h
            refine go_iald (pc' := 77) dX11_calculate_76 rfl g18 ?_
            refine go_icmp_ge (t := 84) (pc' := 80) dX11_calculate_77 rfl rfl (fun c19 => ?_) (fun c19 => ?_)
            · rw [if_pos (show (σ 130 x1) ≤ (σ 138 (360 + y4)) from c19)] at h
              refine go_iconst (pc' := 85) dX11_calculate_84 rfl (r32_c rfl) ?_
              cases h
              exact k9J
            · rw [if_neg (show ¬ ((σ 130 x1) ≤ (σ 138 (360 + y4))) from c19)] at h
              refine go_iconst (pc' := 81) dX11_calculate_80 rfl (r32_c rfl) ?_
              refine go_goto (t := 85) dX11_calculate_81 rfl ?_
              cases h
              exact k9J

set_option maxRecDepth 10000 in
theorem l_M_calculate_185 (d : Nat) (n : Nat) (e : Nat) (x1 : Int) (x2 : Int) (v1 : Int) (j26 : Int × Int) (v41 : Int × Hp) {out : Out} : ∀ (F : Nat) (y46 : Int) (σ47 : Hp) (j65 : Int × Hp), f_M_calculate_185 x1 v41 F y46 σ47 = some j65 → Go none (Ev (d + 2)) mt189 270 [some (pvR 11 0 129), some (pvI x1), some (pvI x2), some (pvI v1), some (pvI j26.1), some (pvI v41.1), some (pvI ((12 * x1) + v41.1)), some (pvI j65.1)] [] (true, n, e, j65.2) out → Go none (Ev (d + 2)) mt189 185 [some (pvR 11 0 129), some (pvI x1), some (pvI x2), some (pvI v1), some (pvI j26.1), some (pvI v41.1), some (pvI ((12 * x1) + v41.1)), some (pvI y46)] [] (true, n, e, σ47) out := by
  intro F
  induction F with
  | zero =>
    intro _ _ _ h
    intro _
    rw [f_M_calculate_185] at h
    cases h
  | succ F ih =>
    intro y46 σ47 j65 h hx
    rw [f_M_calculate_185] at h
    refine go_iload (pc' := 187) dX11_calculate_185 rfl rfl ?_
    refine go_bipush (pc' := 189) dX11_calculate_187 rfl (r32_c rfl) (by decide) ?_
    refine go_icmp_ge (t := 270) (pc' := 192) dX11_calculate_189 rfl rfl (fun c64 => ?_) (fun c64 => ?_)
    · rw [if_pos (show 10 ≤ y46 from c64)] at h
      cases h
      exact hx
    · rw [if_neg (show ¬ (10 ≤ y46) from c64)] at h
      refine go_aload_n (pc' := 193) dX11_calculate_192 rfl rfl (Nat.le_of_ble_eq_true rfl) ?_
      refine go_getR (k' := 12) (L0 := 370) (P' := 137) (pc' := 196) dX11_calculate_193 rfl rf_11_33 rfl rfl (by omega) ?_
      refine go_bipush (pc' := 198) dX11_calculate_196 rfl (r32_c rfl) (by decide) ?_
      refine go_iload (pc' := 200) dX11_calculate_198 rfl rfl ?_
      obtain ⟨g48, h⟩ := gd h
      refine go_imul (pc' := 201) dX11_calculate_200 rfl g48 ?_
      refine go_iload (pc' := 203) dX11_calculate_201 rfl rfl ?_
      obtain ⟨g49, h⟩ := gd h
      refine go_iadd (pc' := 204) dX11_calculate_203 rfl g49 ?_
      refine go_aload_n (pc' := 205) dX11_calculate_204 rfl rfl (Nat.le_of_ble_eq_true rfl) ?_
      refine go_getR (k' := 12) (L0 := 370) (P' := 137) (pc' := 208) dX11_calculate_205 rfl rf_11_33 rfl rfl (by omega) ?_
      refine go_sipush (pc' := 211) dX11_calculate_208 rfl (r32_c rfl) (by decide) ?_
      refine go_iload (pc' := 213) dX11_calculate_211 rfl rfl ?_
      obtain ⟨g50, h⟩ := gd h
      refine go_iadd (pc' := 214) dX11_calculate_213 rfl g50 ?_
      obtain ⟨g51, h⟩ := gd h
      refine go_iald (pc' := 215) dX11_calculate_214 rfl g51 ?_
      obtain ⟨g52, h⟩ := gd h
      refine go_iast (pc' := 216) dX11_calculate_215 rfl g52 ?_
      refine go_aload_n (pc' := 217) dX11_calculate_216 rfl rfl (Nat.le_of_ble_eq_true rfl) ?_
      refine go_getR (k' := 12) (L0 := 370) (P' := 138) (pc' := 220) dX11_calculate_217 rfl rf_11_36 rfl rfl (by omega) ?_
      refine go_bipush (pc' := 222) dX11_calculate_220 rfl (r32_c rfl) (by decide) ?_
      refine go_iload (pc' := 224) dX11_calculate_222 rfl rfl ?_
      obtain ⟨g53, h⟩ := gd h
      refine go_imul (pc' := 225) dX11_calculate_224 rfl g53 ?_
      refine go_iload (pc' := 227) dX11_calculate_225 rfl rfl ?_
      obtain ⟨g54, h⟩ := gd h
      refine go_iadd (pc' := 228) dX11_calculate_227 rfl g54 ?_
      refine go_aload_n (pc' := 229) dX11_calculate_228 rfl rfl (Nat.le_of_ble_eq_true rfl) ?_
      refine go_getR (k' := 12) (L0 := 370) (P' := 138) (pc' := 232) dX11_calculate_229 rfl rf_11_36 rfl rfl (by omega) ?_
      refine go_sipush (pc' := 235) dX11_calculate_232 rfl (r32_c rfl) (by decide) ?_
      refine go_iload (pc' := 237) dX11_calculate_235 rfl rfl ?_
      obtain ⟨g55, h⟩ := gd h
      refine go_iadd (pc' := 238) dX11_calculate_237 rfl g55 ?_
      obtain ⟨g56, h⟩ := gd h
      refine go_iald (pc' := 239) dX11_calculate_238 rfl g56 ?_
      obtain ⟨g57, h⟩ := gd h
      refine go_iast (pc' := 240) dX11_calculate_239 rfl g57 ?_
      refine go_aload_n (pc' := 241) dX11_calculate_240 rfl rfl (Nat.le_of_ble_eq_true rfl) ?_
      refine go_getR (k' := 12) (L0 := 370) (P' := 139) (pc' := 244) dX11_calculate_241 rfl rf_11_39 rfl rfl (by omega) ?_
      refine go_bipush (pc' := 246) dX11_calculate_244 rfl (r32_c rfl) (by decide) ?_
      refine go_iload (pc' := 248) dX11_calculate_246 rfl rfl ?_
      obtain ⟨g58, h⟩ := gd h
      refine go_imul (pc' := 249) dX11_calculate_248 rfl g58 ?_
      refine go_iload (pc' := 251) dX11_calculate_249 rfl rfl ?_
      obtain ⟨g59, h⟩ := gd h
      refine go_iadd (pc' := 252) dX11_calculate_251 rfl g59 ?_
      refine go_aload_n (pc' := 253) dX11_calculate_252 rfl rfl (Nat.le_of_ble_eq_true rfl) ?_
      refine go_getR (k' := 12) (L0 := 370) (P' := 139) (pc' := 256) dX11_calculate_253 rfl rf_11_39 rfl rfl (by omega) ?_
      refine go_sipush (pc' := 259) dX11_calculate_256 rfl (r32_c rfl) (by decide) ?_
      refine go_iload (pc' := 261) dX11_calculate_259 rfl rfl ?_
      obtain ⟨g60, h⟩ := gd h
      refine go_iadd (pc' := 262) dX11_calculate_261 rfl g60 ?_
      obtain ⟨g61, h⟩ := gd h
      refine go_iald (pc' := 263) dX11_calculate_262 rfl g61 ?_
      obtain ⟨g62, h⟩ := gd h
      refine go_iast (pc' := 264) dX11_calculate_263 rfl g62 ?_
      obtain ⟨g63, h⟩ := gd h
      refine go_iinc (L' := [some (pvR 11 0 129), some (pvI x1), some (pvI x2), some (pvI v1), some (pvI j26.1), some (pvI v41.1), some (pvI ((12 * x1) + v41.1)), some (pvI (y46 + 1))]) (pc' := 267) dX11_calculate_264 rfl rfl g63 rfl ?_
      refine go_goto (t := 185) dX11_calculate_267 rfl ?_
      exact ih (y46 + 1) (hset (hset (hset σ47 137 ((10 * ((12 * x1) + v41.1)) + y46) (σ47 137 (360 + y46))) 138 ((10 * ((12 * x1) + v41.1)) + y46) ((hset σ47 137 ((10 * ((12 * x1) + v41.1)) + y46) (σ47 137 (360 + y46))) 138 (360 + y46))) 139 ((10 * ((12 * x1) + v41.1)) + y46) ((hset (hset σ47 137 ((10 * ((12 * x1) + v41.1)) + y46) (σ47 137 (360 + y46))) 138 ((10 * ((12 * x1) + v41.1)) + y46) ((hset σ47 137 ((10 * ((12 * x1) + v41.1)) + y46) (σ47 137 (360 + y46))) 138 (360 + y46))) 139 (360 + y46))) _ h hx

set_option maxRecDepth 10000 in
theorem l_M_calculate (d : Nat) (n e : Nat) (σ : Hp) (x1 : Int) (x2 : Int) (r : Int × Hp) (h : f_M_calculate σ x1 x2 = some r) : Ev (d + 3) 189 [pvR 11 0 129, pvI x1, pvI x2] (true, n, e, σ) (0, some (pvI r.1), true, n, e, r.2) := by
  unfold f_M_calculate at h
  refine Ev.of mtE189 rfl rfl rfl rfl ?_
  show Go none (Ev (d + 2)) mt189 0 [some (pvR 11 0 129), some (pvI x1), some (pvI x2), none, none, none, none, none] [] (true, n, e, σ) (0, some (pvI r.1), true, n, e, r.2)
  refine go_aload_n (pc' := 1) dX11_calculate_0 rfl rfl (Nat.le_of_ble_eq_true rfl) ?_
  refine go_iload_n (pc' := 2) dX11_calculate_1 rfl rfl ?_
  obtain ⟨v1, k2, h⟩ := bd h
  have k2 := l_M_isDim (d + 0) n e σ x1 _ k2
  refine go_call (kc := 171) (Mc := mt171) (v := some (pvI v1)) (w' := (true, n, e, σ)) (pc' := 5) (st' := [pvI v1]) [pvR 11 0 129, pvI x1] [] (Or.inl rfl) dX11_calculate_2 rfl rm_11_149 mtE171 rfl rfl rfl (Nat.le_of_ble_eq_true rfl) (Or.inr ⟨_, _, 129, rfl, Or.inl rfl⟩) k2 rfl ?_
  refine go_istore_n (L' := [some (pvR 11 0 129), some (pvI x1), some (pvI x2), some (pvI v1), none, none, none, none]) (pc' := 6) dX11_calculate_5 rfl (Nat.le_of_ble_eq_true rfl) rfl ?_
  refine go_iload_n (pc' := 7) dX11_calculate_6 rfl rfl ?_
  refine go_istore (L' := [some (pvR 11 0 129), some (pvI x1), some (pvI x2), some (pvI v1), some (pvI v1), none, none, none]) (pc' := 9) dX11_calculate_7 rfl (Nat.le_of_ble_eq_true rfl) rfl ?_
  refine go_iconst (pc' := 10) dX11_calculate_9 rfl (r32_c rfl) ?_
  refine go_istore (L' := [some (pvR 11 0 129), some (pvI x1), some (pvI x2), some (pvI v1), some (pvI v1), some (pvI 0), none, none]) (pc' := 12) dX11_calculate_10 rfl (Nat.le_of_ble_eq_true rfl) rfl ?_
  obtain ⟨j26, k27, h⟩ := bd h
  refine l_M_calculate_12 d n e σ x1 x2 v1 zFuel v1 0 _ k27 ?_
  refine go_aload_n (pc' := 95) dX11_calculate_94 rfl rfl (Nat.le_of_ble_eq_true rfl) ?_
  refine go_iload_n (pc' := 96) dX11_calculate_95 rfl rfl ?_
  obtain ⟨j28, k29, h⟩ := bd h
  have k29J : Go none (Ev (d + 2)) mt189 149 [some (pvR 11 0 129), some (pvI x1), some (pvI x2), some (pvI v1), some (pvI j26.1), some (pvI j26.2), none, none] [pvI j28, pvR 11 0 129] (true, n, e, σ) (0, some (pvI r.1), true, n, e, r.2) := by
    obtain ⟨v39, k40, h⟩ := bd h
    have k40 := l_M_holds (d + 1) n e σ j28 _ k40
    refine go_call (kc := 174) (Mc := mt174) (v := some (pvI v39.1)) (w' := (true, n, e, v39.2)) (pc' := 152) (st' := [pvI v39.1]) [pvR 11 0 129, pvI j28] [] (Or.inl rfl) dX11_calculate_149 rfl rm_11_185 mtE174 rfl rfl rfl (Nat.le_of_ble_eq_true rfl) (Or.inr ⟨_, _, 129, rfl, Or.inl rfl⟩) k40 rfl ?_
    refine go_if_eq (t := 157) (pc' := 155) dX11_calculate_152 rfl rfl (fun c73 => ?_) (fun c73 => ?_)
    · rw [if_pos (show v39.1 = 0 from c73)] at h
      refine go_aload_n (pc' := 158) dX11_calculate_157 rfl rfl (Nat.le_of_ble_eq_true rfl) ?_
      refine go_iload_n (pc' := 159) dX11_calculate_158 rfl rfl ?_
      refine go_iconst (pc' := 160) dX11_calculate_159 rfl (r32_c rfl) ?_
      obtain ⟨v41, k42, h⟩ := bd h
      have k42 := l_M_make (d + 1) n e v39.2 x1 2 _ k42
      refine go_call (kc := 175) (Mc := mt175) (v := some (pvI v41.1)) (w' := (true, n, e, v41.2)) (pc' := 163) (st' := [pvI v41.1]) [pvR 11 0 129, pvI x1, pvI 2] [] (Or.inl rfl) dX11_calculate_160 rfl rm_11_188 mtE175 rfl rfl rfl (Nat.le_of_ble_eq_true rfl) (Or.inr ⟨_, _, 129, rfl, Or.inl rfl⟩) k42 rfl ?_
      refine go_istore (L' := [some (pvR 11 0 129), some (pvI x1), some (pvI x2), some (pvI v1), some (pvI j26.1), some (pvI v41.1), none, none]) (pc' := 165) dX11_calculate_163 rfl (Nat.le_of_ble_eq_true rfl) rfl ?_
      refine go_bipush (pc' := 167) dX11_calculate_165 rfl (r32_c rfl) (by decide) ?_
      refine go_iload_n (pc' := 168) dX11_calculate_167 rfl rfl ?_
      obtain ⟨g43, h⟩ := gd h
      refine go_imul (pc' := 169) dX11_calculate_168 rfl g43 ?_
      refine go_iload (pc' := 171) dX11_calculate_169 rfl rfl ?_
      obtain ⟨g44, h⟩ := gd h
      refine go_iadd (pc' := 172) dX11_calculate_171 rfl g44 ?_
      refine go_istore (L' := [some (pvR 11 0 129), some (pvI x1), some (pvI x2), some (pvI v1), some (pvI j26.1), some (pvI v41.1), some (pvI ((12 * x1) + v41.1)), none]) (pc' := 174) dX11_calculate_172 rfl (Nat.le_of_ble_eq_true rfl) rfl ?_
      refine go_aload_n (pc' := 175) dX11_calculate_174 rfl rfl (Nat.le_of_ble_eq_true rfl) ?_
      refine go_getR (k' := 12) (L0 := 36) (P' := 135) (pc' := 178) dX11_calculate_175 rfl rf_11_27 rfl rfl (by omega) ?_
      refine go_iload (pc' := 180) dX11_calculate_178 rfl rfl ?_
      refine go_iload_n (pc' := 181) dX11_calculate_180 rfl rfl ?_
      obtain ⟨g45, h⟩ := gd h
      refine go_iast (pc' := 182) dX11_calculate_181 rfl g45 ?_
      refine go_iconst (pc' := 183) dX11_calculate_182 rfl (r32_c rfl) ?_
      refine go_istore (L' := [some (pvR 11 0 129), some (pvI x1), some (pvI x2), some (pvI v1), some (pvI j26.1), some (pvI v41.1), some (pvI ((12 * x1) + v41.1)), some (pvI 0)]) (pc' := 185) dX11_calculate_183 rfl (Nat.le_of_ble_eq_true rfl) rfl ?_
      obtain ⟨j66, k67, h⟩ := bd h
      refine l_M_calculate_185 d n e x1 x2 v1 j26 v41 zFuel 0 (hset v41.2 135 ((12 * x1) + v41.1) x2) _ k67 ?_
      refine go_aload_n (pc' := 271) dX11_calculate_270 rfl rfl (Nat.le_of_ble_eq_true rfl) ?_
      refine go_getR (k' := 12) (L0 := 37) (P' := 140) (pc' := 274) dX11_calculate_271 rfl rf_11_42 rfl rfl (by omega) ?_
      refine go_iload (pc' := 276) dX11_calculate_274 rfl rfl ?_
      refine go_aload_n (pc' := 277) dX11_calculate_276 rfl rfl (Nat.le_of_ble_eq_true rfl) ?_
      refine go_getR (k' := 12) (L0 := 37) (P' := 140) (pc' := 280) dX11_calculate_277 rfl rf_11_42 rfl rfl (by omega) ?_
      refine go_bipush (pc' := 282) dX11_calculate_280 rfl (r32_c rfl) (by decide) ?_
      obtain ⟨g68, h⟩ := gd h
      refine go_iald (pc' := 283) dX11_calculate_282 rfl g68 ?_
      obtain ⟨g69, h⟩ := gd h
      refine go_iast (pc' := 284) dX11_calculate_283 rfl g69 ?_
      refine go_aload_n (pc' := 285) dX11_calculate_284 rfl rfl (Nat.le_of_ble_eq_true rfl) ?_
      refine go_getR (k' := 12) (L0 := 37) (P' := 140) (pc' := 288) dX11_calculate_285 rfl rf_11_42 rfl rfl (by omega) ?_
      refine go_bipush (pc' := 290) dX11_calculate_288 rfl (r32_c rfl) (by decide) ?_
      refine go_iconst (pc' := 291) dX11_calculate_290 rfl (r32_c rfl) ?_
      obtain ⟨g70, h⟩ := gd h
      refine go_iast (pc' := 292) dX11_calculate_291 rfl g70 ?_
      refine go_aload_n (pc' := 293) dX11_calculate_292 rfl rfl (Nat.le_of_ble_eq_true rfl) ?_
      obtain ⟨v71, k72, h⟩ := bd h
      have k72 := l_M_fresh (d + 1) n e (hset (hset j66.2 140 ((12 * x1) + v41.1) (j66.2 140 36)) 140 36 0) _ k72
      refine go_call (kc := 178) (Mc := mt178) (v := none) (w' := (true, n, e, v71)) (pc' := 296) (st' := []) [pvR 11 0 129] [] (Or.inl rfl) dX11_calculate_293 rfl rm_11_194 mtE178 rfl rfl rfl (Nat.le_of_ble_eq_true rfl) (Or.inr ⟨_, _, 129, rfl, Or.inl rfl⟩) k72 rfl ?_
      refine go_iload (pc' := 298) dX11_calculate_296 rfl rfl ?_
      cases h
      exact go_iret dX11_calculate_298 rfl rfl
    · rw [if_neg (show ¬ (v39.1 = 0) from c73)] at h
      refine go_iconst (pc' := 156) dX11_calculate_155 rfl (r32_c rfl) ?_
      cases h
      exact go_iret dX11_calculate_156 rfl rfl
  clear h
  have h := k29
  refine go_if_ne (t := 103) (pc' := 99) dX11_calculate_96 rfl rfl (fun c74 => ?_) (fun c74 => ?_)
  · rw [if_pos (show v1 ≠ 0 from c74)] at h
    refine go_aload_n (pc' := 104) dX11_calculate_103 rfl rfl (Nat.le_of_ble_eq_true rfl) ?_
    refine go_iload_n (pc' := 105) dX11_calculate_104 rfl rfl ?_
    refine go_i2l (pc' := 106) dX11_calculate_105 rfl ?_
    refine go_lconst (z := 0) (pc' := 107) dX11_calculate_106 rfl rfl ?_
    refine go_ldc2 (pc' := 110) dX11_calculate_107 rfl (r64_c rfl) rc_11_223 ?_
    obtain ⟨v30, k31, h⟩ := bd h
    have k31 := l_M_in (d + 1) n e σ x2 0 100 _ k31
    refine go_call (kc := 172) (Mc := mt172) (v := some (pvI v30)) (w' := (true, n, e, σ)) (pc' := 113) (st' := [pvI v30, pvR 11 0 129]) [pvR 11 0 129, pvL x2, pvL 0, pvL 100] [pvR 11 0 129] (Or.inl rfl) dX11_calculate_110 rfl rm_11_145 mtE172 rfl rfl rfl (Nat.le_of_ble_eq_true rfl) (Or.inr ⟨_, _, 129, rfl, Or.inl rfl⟩) k31 rfl ?_
    refine go_if_ne (t := 120) (pc' := 116) dX11_calculate_113 rfl rfl (fun c38 => ?_) (fun c38 => ?_)
    · rw [if_pos (show v30 ≠ 0 from c38)] at h
      refine go_aload_n (pc' := 121) dX11_calculate_120 rfl rfl (Nat.le_of_ble_eq_true rfl) ?_
      obtain ⟨v32, k33, h⟩ := bd h
      have k33 := l_M_pileOf (d + 1) n e σ _ k33
      refine go_call (kc := 188) (Mc := mt188) (v := some (pvI v32)) (w' := (true, n, e, σ)) (pc' := 124) (st' := [pvI v32, pvR 11 0 129]) [pvR 11 0 129] [pvR 11 0 129] (Or.inl rfl) dX11_calculate_121 rfl rm_11_219 mtE188 rfl rfl rfl (Nat.le_of_ble_eq_true rfl) (Or.inr ⟨_, _, 129, rfl, Or.inl rfl⟩) k33 rfl ?_
      refine go_iconst (pc' := 125) dX11_calculate_124 rfl (r32_c rfl) ?_
      refine go_icmp_ne (t := 144) (pc' := 128) dX11_calculate_125 rfl rfl (fun c37 => ?_) (fun c37 => ?_)
      · rw [if_pos (show v32 ≠ 1 from c37)] at h
        refine go_iconst (pc' := 145) dX11_calculate_144 rfl (r32_c rfl) ?_
        refine go_goto (t := 149) dX11_calculate_145 rfl ?_
        cases h
        exact k29J
      · rw [if_neg (show ¬ (v32 ≠ 1) from c37)] at h
        refine go_iload (pc' := 130) dX11_calculate_128 rfl rfl ?_
        refine go_if_eq (t := 144) (pc' := 133) dX11_calculate_130 rfl rfl (fun c36 => ?_) (fun c36 => ?_)
        · rw [if_pos (show j26.1 = 0 from c36)] at h
          refine go_iconst (pc' := 145) dX11_calculate_144 rfl (r32_c rfl) ?_
          refine go_goto (t := 149) dX11_calculate_145 rfl ?_
          cases h
          exact k29J
        · rw [if_neg (show ¬ (j26.1 = 0) from c36)] at h
          refine go_aload_n (pc' := 134) dX11_calculate_133 rfl rfl (Nat.le_of_ble_eq_true rfl) ?_
          refine go_getR (k' := 12) (L0 := 3) (P' := 130) (pc' := 137) dX11_calculate_134 rfl rf_11_9 rfl rfl (by omega) ?_
          refine go_iload_n (pc' := 138) dX11_calculate_137 rfl rfl ?_
          obtain ⟨g34, h⟩ := gd h
          refine go_iald (pc' := 139) dX11_calculate_138 rfl g34 ?_
          refine go_bipush (pc' := 141) dX11_calculate_139 rfl (r32_c rfl) (by decide) ?_
          refine go_icmp_ne (t := 148) (pc' := 144) dX11_calculate_141 rfl rfl (fun c35 => ?_) (fun c35 => ?_)
          · rw [if_pos (show (σ 130 x1) ≠ 12 from c35)] at h
            refine go_iconst (pc' := 149) dX11_calculate_148 rfl (r32_c rfl) ?_
            cases h
            exact k29J
          · rw [if_neg (show ¬ ((σ 130 x1) ≠ 12) from c35)] at h
            refine go_iconst (pc' := 145) dX11_calculate_144 rfl (r32_c rfl) ?_
            refine go_goto (t := 149) dX11_calculate_145 rfl ?_
            cases h
            exact k29J
    · rw [if_neg (show ¬ (v30 ≠ 0) from c38)] at h
      refine go_iconst (pc' := 117) dX11_calculate_116 rfl (r32_c rfl) ?_
      refine go_goto (t := 149) dX11_calculate_117 rfl ?_
      cases h
      exact k29J
  · rw [if_neg (show ¬ (v1 ≠ 0) from c74)] at h
    refine go_iconst (pc' := 100) dX11_calculate_99 rfl (r32_c rfl) ?_
    refine go_goto (t := 149) dX11_calculate_100 rfl ?_
    cases h
    exact k29J

set_option maxRecDepth 10000 in
theorem l_M_hide (d : Nat) (n e : Nat) (σ : Hp) (x1 : Int) (x2 : Int) (x3 : Int) (r : Int × Hp) (h : f_M_hide σ x1 x2 x3 = some r) : Ev (d + 4) 190 [pvR 11 0 129, pvI x1, pvI x2, pvI x3] (true, n, e, σ) (0, some (pvI r.1), true, n, e, r.2) := by
  unfold f_M_hide at h
  refine Ev.of mtE190 rfl rfl rfl rfl ?_
  show Go none (Ev (d + 3)) mt190 0 [some (pvR 11 0 129), some (pvI x1), some (pvI x2), some (pvI x3), none, none] [] (true, n, e, σ) (0, some (pvI r.1), true, n, e, r.2)
  refine go_aload_n (pc' := 1) dX11_hide_0 rfl rfl (Nat.le_of_ble_eq_true rfl) ?_
  refine go_iload_n (pc' := 2) dX11_hide_1 rfl rfl ?_
  refine go_iload_n (pc' := 3) dX11_hide_2 rfl rfl ?_
  obtain ⟨v1, k2, h⟩ := bd h
  have k2 := l_M_is (d + 0) n e σ x1 x2 _ k2
  refine go_call (kc := 170) (Mc := mt170) (v := some (pvI v1)) (w' := (true, n, e, σ)) (pc' := 6) (st' := [pvI v1]) [pvR 11 0 129, pvI x1, pvI x2] [] (Or.inl rfl) dX11_hide_3 rfl rm_11_156 mtE170 rfl rfl rfl (Nat.le_of_ble_eq_true rfl) (Or.inr ⟨_, _, 129, rfl, Or.inl rfl⟩) k2 rfl ?_
  obtain ⟨j3, k4, h⟩ := bd h
  have k4J : Go none (Ev (d + 3)) mt190 18 [some (pvR 11 0 129), some (pvI x1), some (pvI x2), some (pvI x3), none, none] [pvI j3] (true, n, e, σ) (0, some (pvI r.1), true, n, e, r.2) := by
    refine go_istore (L' := [some (pvR 11 0 129), some (pvI x1), some (pvI x2), some (pvI x3), some (pvI j3), none]) (pc' := 20) dX11_hide_18 rfl (Nat.le_of_ble_eq_true rfl) rfl ?_
    refine go_aload_n (pc' := 21) dX11_hide_20 rfl rfl (Nat.le_of_ble_eq_true rfl) ?_
    refine go_iload (pc' := 23) dX11_hide_21 rfl rfl ?_
    obtain ⟨j6, k7, h⟩ := bd h
    have k7J : Go none (Ev (d + 3)) mt190 44 [some (pvR 11 0 129), some (pvI x1), some (pvI x2), some (pvI x3), some (pvI j3), none] [pvI j6, pvR 11 0 129] (true, n, e, σ) (0, some (pvI r.1), true, n, e, r.2) := by
      obtain ⟨v11, k12, h⟩ := bd h
      have k12 := l_M_holds (d + 2) n e σ j6 _ k12
      refine go_call (kc := 174) (Mc := mt174) (v := some (pvI v11.1)) (w' := (true, n, e, v11.2)) (pc' := 47) (st' := [pvI v11.1]) [pvR 11 0 129, pvI j6] [] (Or.inl rfl) dX11_hide_44 rfl rm_11_185 mtE174 rfl rfl rfl (Nat.le_of_ble_eq_true rfl) (Or.inr ⟨_, _, 129, rfl, Or.inl rfl⟩) k12 rfl ?_
      refine go_if_eq (t := 52) (pc' := 50) dX11_hide_47 rfl rfl (fun c29 => ?_) (fun c29 => ?_)
      · rw [if_pos (show v11.1 = 0 from c29)] at h
        refine go_aload_n (pc' := 53) dX11_hide_52 rfl rfl (Nat.le_of_ble_eq_true rfl) ?_
        refine go_getR (k' := 12) (L0 := 36) (P' := 136) (pc' := 56) dX11_hide_53 rfl rf_11_30 rfl rfl (by omega) ?_
        refine go_bipush (pc' := 58) dX11_hide_56 rfl (r32_c rfl) (by decide) ?_
        refine go_iload_n (pc' := 59) dX11_hide_58 rfl rfl ?_
        obtain ⟨g13, h⟩ := gd h
        refine go_imul (pc' := 60) dX11_hide_59 rfl g13 ?_
        refine go_iload_n (pc' := 61) dX11_hide_60 rfl rfl ?_
        obtain ⟨g14, h⟩ := gd h
        refine go_iadd (pc' := 62) dX11_hide_61 rfl g14 ?_
        obtain ⟨g15, h⟩ := gd h
        refine go_iald (pc' := 63) dX11_hide_62 rfl g15 ?_
        refine go_iconst (pc' := 64) dX11_hide_63 rfl (r32_c rfl) ?_
        obtain ⟨j16, k17, h⟩ := bd h
        have k17J : Go none (Ev (d + 3)) mt190 72 [some (pvR 11 0 129), some (pvI x1), some (pvI x2), some (pvI x3), some (pvI j3), none] [pvI j16] (true, n, e, v11.2) (0, some (pvI r.1), true, n, e, r.2) := by
          refine go_istore (L' := [some (pvR 11 0 129), some (pvI x1), some (pvI x2), some (pvI x3), some (pvI j3), some (pvI j16)]) (pc' := 74) dX11_hide_72 rfl (Nat.le_of_ble_eq_true rfl) rfl ?_
          refine go_aload_n (pc' := 75) dX11_hide_74 rfl rfl (Nat.le_of_ble_eq_true rfl) ?_
          refine go_getR (k' := 12) (L0 := 36) (P' := 136) (pc' := 78) dX11_hide_75 rfl rf_11_30 rfl rfl (by omega) ?_
          refine go_bipush (pc' := 80) dX11_hide_78 rfl (r32_c rfl) (by decide) ?_
          refine go_iload_n (pc' := 81) dX11_hide_80 rfl rfl ?_
          obtain ⟨g18, h⟩ := gd h
          refine go_imul (pc' := 82) dX11_hide_81 rfl g18 ?_
          refine go_iload_n (pc' := 83) dX11_hide_82 rfl rfl ?_
          obtain ⟨g19, h⟩ := gd h
          refine go_iadd (pc' := 84) dX11_hide_83 rfl g19 ?_
          refine go_iload_n (pc' := 85) dX11_hide_84 rfl rfl ?_
          obtain ⟨j20, k21, h⟩ := bd h
          have k21J : Go none (Ev (d + 3)) mt190 93 [some (pvR 11 0 129), some (pvI x1), some (pvI x2), some (pvI x3), some (pvI j3), some (pvI j16)] [pvI j20, pvI ((12 * x1) + x2), pvR 12 36 136] (true, n, e, v11.2) (0, some (pvI r.1), true, n, e, r.2) := by
            obtain ⟨g22, h⟩ := gd h
            refine go_iast (pc' := 94) dX11_hide_93 rfl g22 ?_
            refine go_aload_n (pc' := 95) dX11_hide_94 rfl rfl (Nat.le_of_ble_eq_true rfl) ?_
            obtain ⟨v23, k24, h⟩ := bd h
            have k24 := l_M_fresh (d + 2) n e (hset v11.2 136 ((12 * x1) + x2) j20) _ k24
            refine go_call (kc := 178) (Mc := mt178) (v := none) (w' := (true, n, e, v23)) (pc' := 98) (st' := []) [pvR 11 0 129] [] (Or.inl rfl) dX11_hide_95 rfl rm_11_194 mtE178 rfl rfl rfl (Nat.le_of_ble_eq_true rfl) (Or.inr ⟨_, _, 129, rfl, Or.inl rfl⟩) k24 rfl ?_
            refine go_iload (pc' := 100) dX11_hide_98 rfl rfl ?_
            obtain ⟨g25, h⟩ := gd h
            cases h
            exact go_zret dX11_hide_100 rfl g25 rfl
          clear h
          have h := k21
          refine go_if_eq (t := 92) (pc' := 88) dX11_hide_85 rfl rfl (fun c26 => ?_) (fun c26 => ?_)
          · rw [if_pos (show x3 = 0 from c26)] at h
            refine go_iconst (pc' := 93) dX11_hide_92 rfl (r32_c rfl) ?_
            cases h
            exact k21J
          · rw [if_neg (show ¬ (x3 = 0) from c26)] at h
            refine go_iconst (pc' := 89) dX11_hide_88 rfl (r32_c rfl) ?_
            refine go_goto (t := 93) dX11_hide_89 rfl ?_
            cases h
            exact k21J
        clear h
        have h := k17
        refine go_icmp_ne (t := 71) (pc' := 67) dX11_hide_64 rfl rfl (fun c27 => ?_) (fun c27 => ?_)
        · rw [if_pos (show (v11.2 136 ((12 * x1) + x2)) ≠ 1 from c27)] at h
          refine go_iconst (pc' := 72) dX11_hide_71 rfl (r32_c rfl) ?_
          cases h
          exact k17J
        · rw [if_neg (show ¬ ((v11.2 136 ((12 * x1) + x2)) ≠ 1) from c27)] at h
          refine go_iconst (pc' := 68) dX11_hide_67 rfl (r32_c rfl) ?_
          refine go_goto (t := 72) dX11_hide_68 rfl ?_
          cases h
          exact k17J
      · rw [if_neg (show ¬ (v11.1 = 0) from c29)] at h
        refine go_iconst (pc' := 51) dX11_hide_50 rfl (r32_c rfl) ?_
        obtain ⟨g28, h⟩ := gd h
        cases h
        exact go_zret dX11_hide_51 rfl g28 rfl
    clear h
    have h := k7
    refine go_if_ne (t := 30) (pc' := 26) dX11_hide_23 rfl rfl (fun c30 => ?_) (fun c30 => ?_)
    · rw [if_pos (show j3 ≠ 0 from c30)] at h
      refine go_aload_n (pc' := 31) dX11_hide_30 rfl rfl (Nat.le_of_ble_eq_true rfl) ?_
      refine go_iload_n (pc' := 32) dX11_hide_31 rfl rfl ?_
      refine go_iload_n (pc' := 33) dX11_hide_32 rfl rfl ?_
      obtain ⟨v8, k9, h⟩ := bd h
      have k9 := l_M_isPlain (d + 2) n e σ x1 x2 _ k9
      refine go_call (kc := 173) (Mc := mt173) (v := some (pvI v8)) (w' := (true, n, e, σ)) (pc' := 36) (st' := [pvI v8, pvR 11 0 129]) [pvR 11 0 129, pvI x1, pvI x2] [pvR 11 0 129] (Or.inl rfl) dX11_hide_33 rfl rm_11_180 mtE173 rfl rfl rfl (Nat.le_of_ble_eq_true rfl) (Or.inr ⟨_, _, 129, rfl, Or.inl rfl⟩) k9 rfl ?_
      refine go_if_ne (t := 43) (pc' := 39) dX11_hide_36 rfl rfl (fun c10 => ?_) (fun c10 => ?_)
      · rw [if_pos (show v8 ≠ 0 from c10)] at h
        refine go_iconst (pc' := 44) dX11_hide_43 rfl (r32_c rfl) ?_
        cases h
        exact k7J
      · rw [if_neg (show ¬ (v8 ≠ 0) from c10)] at h
        refine go_iconst (pc' := 40) dX11_hide_39 rfl (r32_c rfl) ?_
        refine go_goto (t := 44) dX11_hide_40 rfl ?_
        cases h
        exact k7J
    · rw [if_neg (show ¬ (j3 ≠ 0) from c30)] at h
      refine go_iconst (pc' := 27) dX11_hide_26 rfl (r32_c rfl) ?_
      refine go_goto (t := 44) dX11_hide_27 rfl ?_
      cases h
      exact k7J
  clear h
  have h := k4
  refine go_if_eq (t := 17) (pc' := 9) dX11_hide_6 rfl rfl (fun c31 => ?_) (fun c31 => ?_)
  · rw [if_pos (show v1 = 0 from c31)] at h
    refine go_iconst (pc' := 18) dX11_hide_17 rfl (r32_c rfl) ?_
    cases h
    exact k4J
  · rw [if_neg (show ¬ (v1 = 0) from c31)] at h
    refine go_iload_n (pc' := 10) dX11_hide_9 rfl rfl ?_
    refine go_if_le (t := 17) (pc' := 13) dX11_hide_10 rfl rfl (fun c5 => ?_) (fun c5 => ?_)
    · rw [if_pos (show x2 ≤ 0 from c5)] at h
      refine go_iconst (pc' := 18) dX11_hide_17 rfl (r32_c rfl) ?_
      cases h
      exact k4J
    · rw [if_neg (show ¬ (x2 ≤ 0) from c5)] at h
      refine go_iconst (pc' := 14) dX11_hide_13 rfl (r32_c rfl) ?_
      refine go_goto (t := 18) dX11_hide_14 rfl ?_
      cases h
      exact k4J

set_option maxRecDepth 10000 in
theorem l_M_totals (d : Nat) (n e : Nat) (σ : Hp) (x1 : Int) (r : Int × Hp) (h : f_M_totals σ x1 = some r) : Ev (d + 2) 191 [pvR 11 0 129, pvI x1] (true, n, e, σ) (0, some (pvI r.1), true, n, e, r.2) := by
  unfold f_M_totals at h
  refine Ev.of mtE191 rfl rfl rfl rfl ?_
  show Go none (Ev (d + 1)) mt191 0 [some (pvR 11 0 129), some (pvI x1), none] [] (true, n, e, σ) (0, some (pvI r.1), true, n, e, r.2)
  refine go_aload_n (pc' := 1) dX11_totals_0 rfl rfl (Nat.le_of_ble_eq_true rfl) ?_
  refine go_iconst (pc' := 2) dX11_totals_1 rfl (r32_c rfl) ?_
  obtain ⟨v1, k2, h⟩ := bd h
  have k2 := l_M_holds (d + 0) n e σ 0 _ k2
  refine go_call (kc := 174) (Mc := mt174) (v := some (pvI v1.1)) (w' := (true, n, e, v1.2)) (pc' := 5) (st' := [pvI v1.1]) [pvR 11 0 129, pvI 0] [] (Or.inl rfl) dX11_totals_2 rfl rm_11_185 mtE174 rfl rfl rfl (Nat.le_of_ble_eq_true rfl) (Or.inr ⟨_, _, 129, rfl, Or.inl rfl⟩) k2 rfl ?_
  refine go_pop (pc' := 6) dX11_totals_5 rfl (Nat.ne_of_beq_eq_false rfl) ?_
  refine go_aload_n (pc' := 7) dX11_totals_6 rfl rfl (Nat.le_of_ble_eq_true rfl) ?_
  refine go_getZ (pc' := 10) dX11_totals_7 rfl rf_11_225 rfl ?_
  refine go_istore_n (L' := [some (pvR 11 0 129), some (pvI x1), some (pvI (v1.2 129 17))]) (pc' := 11) dX11_totals_10 rfl (Nat.le_of_ble_eq_true rfl) rfl ?_
  refine go_aload_n (pc' := 12) dX11_totals_11 rfl rfl (Nat.le_of_ble_eq_true rfl) ?_
  refine go_iload_n (pc' := 13) dX11_totals_12 rfl rfl ?_
  obtain ⟨g3, h⟩ := gd h
  refine go_putZ (pc' := 16) dX11_totals_13 rfl rf_11_225 rfl g3 ?_
  refine go_aload_n (pc' := 17) dX11_totals_16 rfl rfl (Nat.le_of_ble_eq_true rfl) ?_
  obtain ⟨v4, k5, h⟩ := bd h
  have k5 := l_M_fresh (d + 0) n e (hset v1.2 129 17 x1) _ k5
  refine go_call (kc := 178) (Mc := mt178) (v := none) (w' := (true, n, e, v4)) (pc' := 20) (st' := []) [pvR 11 0 129] [] (Or.inl rfl) dX11_totals_17 rfl rm_11_194 mtE178 rfl rfl rfl (Nat.le_of_ble_eq_true rfl) (Or.inr ⟨_, _, 129, rfl, Or.inl rfl⟩) k5 rfl ?_
  refine go_iload_n (pc' := 21) dX11_totals_20 rfl rfl ?_
  obtain ⟨g6, h⟩ := gd h
  cases h
  exact go_zret dX11_totals_21 rfl g6 rfl

set_option maxRecDepth 10000 in
theorem l_M_isMeasure (d : Nat) (n e : Nat) (σ : Hp) (x1 : Int) (r : Int) (h : f_M_isMeasure σ x1 = some r) : Ev (d + 2) 193 [pvR 11 0 129, pvI x1] (true, n, e, σ) (0, some (pvI r), true, n, e, σ) := by
  unfold f_M_isMeasure at h
  refine Ev.of mtE193 rfl rfl rfl rfl ?_
  show Go none (Ev (d + 1)) mt193 0 [some (pvR 11 0 129), some (pvI x1)] [] (true, n, e, σ) (0, some (pvI r), true, n, e, σ)
  refine go_aload_n (pc' := 1) dX11_isMeasure_0 rfl rfl (Nat.le_of_ble_eq_true rfl) ?_
  refine go_iload_n (pc' := 2) dX11_isMeasure_1 rfl rfl ?_
  refine go_i2l (pc' := 3) dX11_isMeasure_2 rfl ?_
  refine go_lconst (z := 0) (pc' := 4) dX11_isMeasure_3 rfl rfl ?_
  refine go_aload_n (pc' := 5) dX11_isMeasure_4 rfl rfl (Nat.le_of_ble_eq_true rfl) ?_
  refine go_getI (pc' := 8) dX11_isMeasure_5 rfl rf_11_153 rfl ?_
  refine go_iconst (pc' := 9) dX11_isMeasure_8 rfl (r32_c rfl) ?_
  obtain ⟨g1, h⟩ := gd h
  refine go_isub (pc' := 10) dX11_isMeasure_9 rfl g1 ?_
  refine go_i2l (pc' := 11) dX11_isMeasure_10 rfl ?_
  obtain ⟨v2, k3, h⟩ := bd h
  have k3 := l_M_in (d + 0) n e σ x1 0 ((σ 129 23) - 1) _ k3
  refine go_call (kc := 172) (Mc := mt172) (v := some (pvI v2)) (w' := (true, n, e, σ)) (pc' := 14) (st' := [pvI v2]) [pvR 11 0 129, pvL x1, pvL 0, pvL ((σ 129 23) - 1)] [] (Or.inl rfl) dX11_isMeasure_11 rfl rm_11_145 mtE172 rfl rfl rfl (Nat.le_of_ble_eq_true rfl) (Or.inr ⟨_, _, 129, rfl, Or.inl rfl⟩) k3 rfl ?_
  obtain ⟨g4, h⟩ := gd h
  cases h
  exact go_zret dX11_isMeasure_14 rfl g4 rfl

set_option maxRecDepth 10000 in
theorem l_M_measure (d : Nat) (n e : Nat) (σ : Hp) (x1 : Int) (x2 : Int) (x3 : Int) (r : Int × Hp) (h : f_M_measure σ x1 x2 x3 = some r) : Ev (d + 3) 192 [pvR 11 0 129, pvI x1, pvI x2, pvI x3] (true, n, e, σ) (0, some (pvI r.1), true, n, e, r.2) := by
  unfold f_M_measure at h
  refine Ev.of mtE192 rfl rfl rfl rfl ?_
  show Go none (Ev (d + 2)) mt192 0 [some (pvR 11 0 129), some (pvI x1), some (pvI x2), some (pvI x3), none] [] (true, n, e, σ) (0, some (pvI r.1), true, n, e, r.2)
  refine go_iload_n (pc' := 1) dX11_measure_0 rfl rfl ?_
  refine go_iconst (pc' := 2) dX11_measure_1 rfl (r32_c rfl) ?_
  obtain ⟨j1, k2, h⟩ := bd h
  have k2J : Go none (Ev (d + 2)) mt192 26 [some (pvR 11 0 129), some (pvI x1), some (pvI x2), some (pvI x3), none] [pvI j1] (true, n, e, σ) (0, some (pvI r.1), true, n, e, r.2) := by
    refine go_istore (L' := [some (pvR 11 0 129), some (pvI x1), some (pvI x2), some (pvI x3), some (pvI j1)]) (pc' := 28) dX11_measure_26 rfl (Nat.le_of_ble_eq_true rfl) rfl ?_
    refine go_aload_n (pc' := 29) dX11_measure_28 rfl rfl (Nat.le_of_ble_eq_true rfl) ?_
    refine go_iload (pc' := 31) dX11_measure_29 rfl rfl ?_
    obtain ⟨j9, k10, h⟩ := bd h
    have k10J : Go none (Ev (d + 2)) mt192 68 [some (pvR 11 0 129), some (pvI x1), some (pvI x2), some (pvI x3), some (pvI j1)] [pvI j9, pvR 11 0 129] (true, n, e, σ) (0, some (pvI r.1), true, n, e, r.2) := by
      obtain ⟨v15, k16, h⟩ := bd h
      have k16 := l_M_holds (d + 1) n e σ j9 _ k16
      refine go_call (kc := 174) (Mc := mt174) (v := some (pvI v15.1)) (w' := (true, n, e, v15.2)) (pc' := 71) (st' := [pvI v15.1]) [pvR 11 0 129, pvI j9] [] (Or.inl rfl) dX11_measure_68 rfl rm_11_185 mtE174 rfl rfl rfl (Nat.le_of_ble_eq_true rfl) (Or.inr ⟨_, _, 129, rfl, Or.inl rfl⟩) k16 rfl ?_
      refine go_if_eq (t := 76) (pc' := 74) dX11_measure_71 rfl rfl (fun c24 => ?_) (fun c24 => ?_)
      · rw [if_pos (show v15.1 = 0 from c24)] at h
        refine go_aload_n (pc' := 77) dX11_measure_76 rfl rfl (Nat.le_of_ble_eq_true rfl) ?_
        refine go_getR (k' := 12) (L0 := 4) (P' := 146) (pc' := 80) dX11_measure_77 rfl rf_11_60 rfl rfl (by omega) ?_
        refine go_aload_n (pc' := 81) dX11_measure_80 rfl rfl (Nat.le_of_ble_eq_true rfl) ?_
        refine go_getI (pc' := 84) dX11_measure_81 rfl rf_11_153 rfl ?_
        refine go_iload_n (pc' := 85) dX11_measure_84 rfl rfl ?_
        obtain ⟨g17, h⟩ := gd h
        refine go_iast (pc' := 86) dX11_measure_85 rfl g17 ?_
        refine go_aload_n (pc' := 87) dX11_measure_86 rfl rfl (Nat.le_of_ble_eq_true rfl) ?_
        refine go_getR (k' := 12) (L0 := 4) (P' := 147) (pc' := 90) dX11_measure_87 rfl rf_11_63 rfl rfl (by omega) ?_
        refine go_aload_n (pc' := 91) dX11_measure_90 rfl rfl (Nat.le_of_ble_eq_true rfl) ?_
        refine go_getI (pc' := 94) dX11_measure_91 rfl rf_11_153 rfl ?_
        refine go_iload_n (pc' := 95) dX11_measure_94 rfl rfl ?_
        obtain ⟨g18, h⟩ := gd h
        refine go_iast (pc' := 96) dX11_measure_95 rfl g18 ?_
        refine go_aload_n (pc' := 97) dX11_measure_96 rfl rfl (Nat.le_of_ble_eq_true rfl) ?_
        refine go_getR (k' := 12) (L0 := 4) (P' := 148) (pc' := 100) dX11_measure_97 rfl rf_11_66 rfl rfl (by omega) ?_
        refine go_aload_n (pc' := 101) dX11_measure_100 rfl rfl (Nat.le_of_ble_eq_true rfl) ?_
        refine go_getI (pc' := 104) dX11_measure_101 rfl rf_11_153 rfl ?_
        refine go_iload_n (pc' := 105) dX11_measure_104 rfl rfl ?_
        obtain ⟨g19, h⟩ := gd h
        refine go_iast (pc' := 106) dX11_measure_105 rfl g19 ?_
        refine go_aload_n (pc' := 107) dX11_measure_106 rfl rfl (Nat.le_of_ble_eq_true rfl) ?_
        refine go_dup (pc' := 108) dX11_measure_107 rfl (Nat.ne_of_beq_eq_false rfl) ?_
        refine go_getI (pc' := 111) dX11_measure_108 rfl rf_11_153 rfl ?_
        refine go_iconst (pc' := 112) dX11_measure_111 rfl (r32_c rfl) ?_
        obtain ⟨g20, h⟩ := gd h
        refine go_iadd (pc' := 113) dX11_measure_112 rfl g20 ?_
        refine go_putI (pc' := 116) dX11_measure_113 rfl rf_11_153 rfl ?_
        refine go_aload_n (pc' := 117) dX11_measure_116 rfl rfl (Nat.le_of_ble_eq_true rfl) ?_
        obtain ⟨v21, k22, h⟩ := bd h
        have k22 := l_M_fresh (d + 1) n e (hset (hset (hset (hset v15.2 146 (v15.2 129 23) x1) 147 ((hset v15.2 146 (v15.2 129 23) x1) 129 23) x2) 148 ((hset (hset v15.2 146 (v15.2 129 23) x1) 147 ((hset v15.2 146 (v15.2 129 23) x1) 129 23) x2) 129 23) x3) 129 23 (((hset (hset (hset v15.2 146 (v15.2 129 23) x1) 147 ((hset v15.2 146 (v15.2 129 23) x1) 129 23) x2) 148 ((hset (hset v15.2 146 (v15.2 129 23) x1) 147 ((hset v15.2 146 (v15.2 129 23) x1) 129 23) x2) 129 23) x3) 129 23) + 1)) _ k22
        refine go_call (kc := 178) (Mc := mt178) (v := none) (w' := (true, n, e, v21)) (pc' := 120) (st' := []) [pvR 11 0 129] [] (Or.inl rfl) dX11_measure_117 rfl rm_11_194 mtE178 rfl rfl rfl (Nat.le_of_ble_eq_true rfl) (Or.inr ⟨_, _, 129, rfl, Or.inl rfl⟩) k22 rfl ?_
        refine go_aload_n (pc' := 121) dX11_measure_120 rfl rfl (Nat.le_of_ble_eq_true rfl) ?_
        refine go_getI (pc' := 124) dX11_measure_121 rfl rf_11_153 rfl ?_
        refine go_iconst (pc' := 125) dX11_measure_124 rfl (r32_c rfl) ?_
        obtain ⟨g23, h⟩ := gd h
        refine go_isub (pc' := 126) dX11_measure_125 rfl g23 ?_
        cases h
        exact go_iret dX11_measure_126 rfl rfl
      · rw [if_neg (show ¬ (v15.1 = 0) from c24)] at h
        refine go_iconst (pc' := 75) dX11_measure_74 rfl (r32_c rfl) ?_
        cases h
        exact go_iret dX11_measure_75 rfl rfl
    clear h
    have h := k10
    refine go_if_ne (t := 38) (pc' := 34) dX11_measure_31 rfl rfl (fun c25 => ?_) (fun c25 => ?_)
    · rw [if_pos (show j1 ≠ 0 from c25)] at h
      refine go_aload_n (pc' := 39) dX11_measure_38 rfl rfl (Nat.le_of_ble_eq_true rfl) ?_
      refine go_iload_n (pc' := 40) dX11_measure_39 rfl rfl ?_
      refine go_i2l (pc' := 41) dX11_measure_40 rfl ?_
      refine go_lconst (z := 0) (pc' := 42) dX11_measure_41 rfl rfl ?_
      refine go_ldc2 (pc' := 45) dX11_measure_42 rfl (r64_c rfl) rc_11_228 ?_
      obtain ⟨v11, k12, h⟩ := bd h
      have k12 := l_M_in (d + 1) n e σ x1 0 3 _ k12
      refine go_call (kc := 172) (Mc := mt172) (v := some (pvI v11)) (w' := (true, n, e, σ)) (pc' := 48) (st' := [pvI v11, pvR 11 0 129]) [pvR 11 0 129, pvL x1, pvL 0, pvL 3] [pvR 11 0 129] (Or.inl rfl) dX11_measure_45 rfl rm_11_145 mtE172 rfl rfl rfl (Nat.le_of_ble_eq_true rfl) (Or.inr ⟨_, _, 129, rfl, Or.inl rfl⟩) k12 rfl ?_
      refine go_if_ne (t := 55) (pc' := 51) dX11_measure_48 rfl rfl (fun c14 => ?_) (fun c14 => ?_)
      · rw [if_pos (show v11 ≠ 0 from c14)] at h
        refine go_aload_n (pc' := 56) dX11_measure_55 rfl rfl (Nat.le_of_ble_eq_true rfl) ?_
        refine go_getI (pc' := 59) dX11_measure_56 rfl rf_11_153 rfl ?_
        refine go_iconst (pc' := 60) dX11_measure_59 rfl (r32_c rfl) ?_
        refine go_icmp_ne (t := 67) (pc' := 63) dX11_measure_60 rfl rfl (fun c13 => ?_) (fun c13 => ?_)
        · rw [if_pos (show (σ 129 23) ≠ 4 from c13)] at h
          refine go_iconst (pc' := 68) dX11_measure_67 rfl (r32_c rfl) ?_
          cases h
          exact k10J
        · rw [if_neg (show ¬ ((σ 129 23) ≠ 4) from c13)] at h
          refine go_iconst (pc' := 64) dX11_measure_63 rfl (r32_c rfl) ?_
          refine go_goto (t := 68) dX11_measure_64 rfl ?_
          cases h
          exact k10J
      · rw [if_neg (show ¬ (v11 ≠ 0) from c14)] at h
        refine go_iconst (pc' := 52) dX11_measure_51 rfl (r32_c rfl) ?_
        refine go_goto (t := 68) dX11_measure_52 rfl ?_
        cases h
        exact k10J
    · rw [if_neg (show ¬ (j1 ≠ 0) from c25)] at h
      refine go_iconst (pc' := 35) dX11_measure_34 rfl (r32_c rfl) ?_
      refine go_goto (t := 68) dX11_measure_35 rfl ?_
      cases h
      exact k10J
  clear h
  have h := k2
  refine go_icmp_ne (t := 21) (pc' := 5) dX11_measure_2 rfl rfl (fun c26 => ?_) (fun c26 => ?_)
  · rw [if_pos (show x1 ≠ 3 from c26)] at h
    refine go_iconst (pc' := 22) dX11_measure_21 rfl (r32_c rfl) ?_
    refine go_goto (t := 26) dX11_measure_22 rfl ?_
    cases h
    exact k2J
  · rw [if_neg (show ¬ (x1 ≠ 3) from c26)] at h
    refine go_aload_n (pc' := 6) dX11_measure_5 rfl rfl (Nat.le_of_ble_eq_true rfl) ?_
    refine go_iload_n (pc' := 7) dX11_measure_6 rfl rfl ?_
    obtain ⟨v3, k4, h⟩ := bd h
    have k4 := l_M_isMeasure (d + 0) n e σ x2 _ k4
    refine go_call (kc := 193) (Mc := mt193) (v := some (pvI v3)) (w' := (true, n, e, σ)) (pc' := 10) (st' := [pvI v3]) [pvR 11 0 129, pvI x2] [] (Or.inl rfl) dX11_measure_7 rfl rm_11_160 mtE193 rfl rfl rfl (Nat.le_of_ble_eq_true rfl) (Or.inr ⟨_, _, 129, rfl, Or.inl rfl⟩) k4 rfl ?_
    refine go_if_eq (t := 25) (pc' := 13) dX11_measure_10 rfl rfl (fun c8 => ?_) (fun c8 => ?_)
    · rw [if_pos (show v3 = 0 from c8)] at h
      refine go_iconst (pc' := 26) dX11_measure_25 rfl (r32_c rfl) ?_
      cases h
      exact k2J
    · rw [if_neg (show ¬ (v3 = 0) from c8)] at h
      refine go_aload_n (pc' := 14) dX11_measure_13 rfl rfl (Nat.le_of_ble_eq_true rfl) ?_
      refine go_iload_n (pc' := 15) dX11_measure_14 rfl rfl ?_
      obtain ⟨v5, k6, h⟩ := bd h
      have k6 := l_M_isMeasure (d + 0) n e σ x3 _ k6
      refine go_call (kc := 193) (Mc := mt193) (v := some (pvI v5)) (w' := (true, n, e, σ)) (pc' := 18) (st' := [pvI v5]) [pvR 11 0 129, pvI x3] [] (Or.inl rfl) dX11_measure_15 rfl rm_11_160 mtE193 rfl rfl rfl (Nat.le_of_ble_eq_true rfl) (Or.inr ⟨_, _, 129, rfl, Or.inl rfl⟩) k6 rfl ?_
      refine go_if_eq (t := 25) (pc' := 21) dX11_measure_18 rfl rfl (fun c7 => ?_) (fun c7 => ?_)
      · rw [if_pos (show v5 = 0 from c7)] at h
        refine go_iconst (pc' := 26) dX11_measure_25 rfl (r32_c rfl) ?_
        cases h
        exact k2J
      · rw [if_neg (show ¬ (v5 = 0) from c7)] at h
        refine go_iconst (pc' := 22) dX11_measure_21 rfl (r32_c rfl) ?_
        refine go_goto (t := 26) dX11_measure_22 rfl ?_
        cases h
        exact k2J

set_option maxRecDepth 10000 in
theorem l_M_from (d : Nat) (n e : Nat) (σ : Hp) (x1 : Int) (x2 : Int) (x3 : Int) (r : Int × Hp) (h : f_M_from σ x1 x2 x3 = some r) : Ev (d + 3) 194 [pvR 11 0 129, pvI x1, pvI x2, pvI x3] (true, n, e, σ) (0, some (pvI r.1), true, n, e, r.2) := by
  unfold f_M_from at h
  refine Ev.of mtE194 rfl rfl rfl rfl ?_
  show Go none (Ev (d + 2)) mt194 0 [some (pvR 11 0 129), some (pvI x1), some (pvI x2), some (pvI x3), none] [] (true, n, e, σ) (0, some (pvI r.1), true, n, e, r.2)
  refine go_aload_n (pc' := 1) dX11_from_0 rfl rfl (Nat.le_of_ble_eq_true rfl) ?_
  refine go_aload_n (pc' := 2) dX11_from_1 rfl rfl (Nat.le_of_ble_eq_true rfl) ?_
  refine go_iload_n (pc' := 3) dX11_from_2 rfl rfl ?_
  obtain ⟨v1, k2, h⟩ := bd h
  have k2 := l_M_isMeasure (d + 0) n e σ x1 _ k2
  refine go_call (kc := 193) (Mc := mt193) (v := some (pvI v1)) (w' := (true, n, e, σ)) (pc' := 6) (st' := [pvI v1, pvR 11 0 129]) [pvR 11 0 129, pvI x1] [pvR 11 0 129] (Or.inl rfl) dX11_from_3 rfl rm_11_160 mtE193 rfl rfl rfl (Nat.le_of_ble_eq_true rfl) (Or.inr ⟨_, _, 129, rfl, Or.inl rfl⟩) k2 rfl ?_
  obtain ⟨j3, k4, h⟩ := bd h
  have k4J : Go none (Ev (d + 2)) mt194 39 [some (pvR 11 0 129), some (pvI x1), some (pvI x2), some (pvI x3), none] [pvI j3, pvR 11 0 129] (true, n, e, σ) (0, some (pvI r.1), true, n, e, r.2) := by
    obtain ⟨v11, k12, h⟩ := bd h
    have k12 := l_M_holds (d + 1) n e σ j3 _ k12
    refine go_call (kc := 174) (Mc := mt174) (v := some (pvI v11.1)) (w' := (true, n, e, v11.2)) (pc' := 42) (st' := [pvI v11.1]) [pvR 11 0 129, pvI j3] [] (Or.inl rfl) dX11_from_39 rfl rm_11_185 mtE174 rfl rfl rfl (Nat.le_of_ble_eq_true rfl) (Or.inr ⟨_, _, 129, rfl, Or.inl rfl⟩) k12 rfl ?_
    refine go_if_eq (t := 47) (pc' := 45) dX11_from_42 rfl rfl (fun c21 => ?_) (fun c21 => ?_)
    · rw [if_pos (show v11.1 = 0 from c21)] at h
      refine go_aload_n (pc' := 48) dX11_from_47 rfl rfl (Nat.le_of_ble_eq_true rfl) ?_
      refine go_getR (k' := 12) (L0 := 12) (P' := 149) (pc' := 51) dX11_from_48 rfl rf_11_69 rfl rfl (by omega) ?_
      refine go_iconst (pc' := 52) dX11_from_51 rfl (r32_c rfl) ?_
      refine go_iload_n (pc' := 53) dX11_from_52 rfl rfl ?_
      obtain ⟨g13, h⟩ := gd h
      refine go_imul (pc' := 54) dX11_from_53 rfl g13 ?_
      refine go_iload_n (pc' := 55) dX11_from_54 rfl rfl ?_
      obtain ⟨g14, h⟩ := gd h
      refine go_iadd (pc' := 56) dX11_from_55 rfl g14 ?_
      obtain ⟨g15, h⟩ := gd h
      refine go_iald (pc' := 57) dX11_from_56 rfl g15 ?_
      refine go_istore (L' := [some (pvR 11 0 129), some (pvI x1), some (pvI x2), some (pvI x3), some (pvI (v11.2 149 ((3 * x1) + x2)))]) (pc' := 59) dX11_from_57 rfl (Nat.le_of_ble_eq_true rfl) rfl ?_
      refine go_aload_n (pc' := 60) dX11_from_59 rfl rfl (Nat.le_of_ble_eq_true rfl) ?_
      refine go_getR (k' := 12) (L0 := 12) (P' := 149) (pc' := 63) dX11_from_60 rfl rf_11_69 rfl rfl (by omega) ?_
      refine go_iconst (pc' := 64) dX11_from_63 rfl (r32_c rfl) ?_
      refine go_iload_n (pc' := 65) dX11_from_64 rfl rfl ?_
      obtain ⟨g16, h⟩ := gd h
      refine go_imul (pc' := 66) dX11_from_65 rfl g16 ?_
      refine go_iload_n (pc' := 67) dX11_from_66 rfl rfl ?_
      obtain ⟨g17, h⟩ := gd h
      refine go_iadd (pc' := 68) dX11_from_67 rfl g17 ?_
      refine go_iload_n (pc' := 69) dX11_from_68 rfl rfl ?_
      obtain ⟨g18, h⟩ := gd h
      refine go_iast (pc' := 70) dX11_from_69 rfl g18 ?_
      refine go_aload_n (pc' := 71) dX11_from_70 rfl rfl (Nat.le_of_ble_eq_true rfl) ?_
      obtain ⟨v19, k20, h⟩ := bd h
      have k20 := l_M_fresh (d + 1) n e (hset v11.2 149 ((3 * x1) + x2) x3) _ k20
      refine go_call (kc := 178) (Mc := mt178) (v := none) (w' := (true, n, e, v19)) (pc' := 74) (st' := []) [pvR 11 0 129] [] (Or.inl rfl) dX11_from_71 rfl rm_11_194 mtE178 rfl rfl rfl (Nat.le_of_ble_eq_true rfl) (Or.inr ⟨_, _, 129, rfl, Or.inl rfl⟩) k20 rfl ?_
      refine go_iload (pc' := 76) dX11_from_74 rfl rfl ?_
      cases h
      exact go_iret dX11_from_76 rfl rfl
    · rw [if_neg (show ¬ (v11.1 = 0) from c21)] at h
      refine go_iconst (pc' := 46) dX11_from_45 rfl (r32_c rfl) ?_
      cases h
      exact go_iret dX11_from_46 rfl rfl
  clear h
  have h := k4
  refine go_if_eq (t := 17) (pc' := 9) dX11_from_6 rfl rfl (fun c22 => ?_) (fun c22 => ?_)
  · rw [if_pos (show v1 = 0 from c22)] at h
    refine go_iconst (pc' := 18) dX11_from_17 rfl (r32_c rfl) ?_
    refine go_goto (t := 39) dX11_from_18 rfl ?_
    cases h
    exact k4J
  · rw [if_neg (show ¬ (v1 = 0) from c22)] at h
    refine go_aload_n (pc' := 10) dX11_from_9 rfl rfl (Nat.le_of_ble_eq_true rfl) ?_
    refine go_iload_n (pc' := 11) dX11_from_10 rfl rfl ?_
    obtain ⟨v5, k6, h⟩ := bd h
    have k6 := l_M_isDim (d + 0) n e σ x2 _ k6
    refine go_call (kc := 171) (Mc := mt171) (v := some (pvI v5)) (w' := (true, n, e, σ)) (pc' := 14) (st' := [pvI v5, pvR 11 0 129]) [pvR 11 0 129, pvI x2] [pvR 11 0 129] (Or.inl rfl) dX11_from_11 rfl rm_11_149 mtE171 rfl rfl rfl (Nat.le_of_ble_eq_true rfl) (Or.inr ⟨_, _, 129, rfl, Or.inl rfl⟩) k6 rfl ?_
    refine go_if_ne (t := 21) (pc' := 17) dX11_from_14 rfl rfl (fun c10 => ?_) (fun c10 => ?_)
    · rw [if_pos (show v5 ≠ 0 from c10)] at h
      refine go_aload_n (pc' := 22) dX11_from_21 rfl rfl (Nat.le_of_ble_eq_true rfl) ?_
      refine go_iload_n (pc' := 23) dX11_from_22 rfl rfl ?_
      refine go_i2l (pc' := 24) dX11_from_23 rfl ?_
      refine go_lconst (z := 0) (pc' := 25) dX11_from_24 rfl rfl ?_
      refine go_ldc2 (pc' := 28) dX11_from_25 rfl (r64_c rfl) rc_11_217 ?_
      obtain ⟨v7, k8, h⟩ := bd h
      have k8 := l_M_in (d + 1) n e σ x3 0 11 _ k8
      refine go_call (kc := 172) (Mc := mt172) (v := some (pvI v7)) (w' := (true, n, e, σ)) (pc' := 31) (st' := [pvI v7, pvR 11 0 129]) [pvR 11 0 129, pvL x3, pvL 0, pvL 11] [pvR 11 0 129] (Or.inl rfl) dX11_from_28 rfl rm_11_145 mtE172 rfl rfl rfl (Nat.le_of_ble_eq_true rfl) (Or.inr ⟨_, _, 129, rfl, Or.inl rfl⟩) k8 rfl ?_
      refine go_if_eq (t := 38) (pc' := 34) dX11_from_31 rfl rfl (fun c9 => ?_) (fun c9 => ?_)
      · rw [if_pos (show v7 = 0 from c9)] at h
        refine go_iconst (pc' := 39) dX11_from_38 rfl (r32_c rfl) ?_
        cases h
        exact k4J
      · rw [if_neg (show ¬ (v7 = 0) from c9)] at h
        refine go_iconst (pc' := 35) dX11_from_34 rfl (r32_c rfl) ?_
        refine go_goto (t := 39) dX11_from_35 rfl ?_
        cases h
        exact k4J
    · rw [if_neg (show ¬ (v5 ≠ 0) from c10)] at h
      refine go_iconst (pc' := 18) dX11_from_17 rfl (r32_c rfl) ?_
      refine go_goto (t := 39) dX11_from_18 rfl ?_
      cases h
      exact k4J

set_option maxRecDepth 10000 in
theorem l_M_areThere (d : Nat) (n e : Nat) (σ : Hp) (x1 : Int) (x2 : Int) (x3 : Int) (x4 : Int) (r : Int) (h : f_M_areThere σ x1 x2 x3 x4 = some r) : Ev (d + 4) 196 [pvR 11 0 129, pvI x1, pvI x2, pvI x3, pvI x4] (true, n, e, σ) (0, some (pvI r), true, n, e, σ) := by
  unfold f_M_areThere at h
  refine Ev.of mtE196 rfl rfl rfl rfl ?_
  show Go none (Ev (d + 3)) mt196 0 [some (pvR 11 0 129), some (pvI x1), some (pvI x2), some (pvI x3), some (pvI x4)] [] (true, n, e, σ) (0, some (pvI r), true, n, e, σ)
  refine go_aload_n (pc' := 1) dX11_areThere_0 rfl rfl (Nat.le_of_ble_eq_true rfl) ?_
  refine go_iconst (pc' := 2) dX11_areThere_1 rfl (r32_c rfl) ?_
  refine go_iload_n (pc' := 3) dX11_areThere_2 rfl rfl ?_
  obtain ⟨v1, k2, h⟩ := bd h
  have k2 := l_M_is (d + 0) n e σ 0 x1 _ k2
  refine go_call (kc := 170) (Mc := mt170) (v := some (pvI v1)) (w' := (true, n, e, σ)) (pc' := 6) (st' := [pvI v1]) [pvR 11 0 129, pvI 0, pvI x1] [] (Or.inl rfl) dX11_areThere_3 rfl rm_11_156 mtE170 rfl rfl rfl (Nat.le_of_ble_eq_true rfl) (Or.inr ⟨_, _, 129, rfl, Or.inl rfl⟩) k2 rfl ?_
  obtain ⟨j3, k4, h⟩ := bd h
  have k4J : Go none (Ev (d + 3)) mt196 41 [some (pvR 11 0 129), some (pvI x1), some (pvI x2), some (pvI x3), some (pvI x4)] [pvI j3] (true, n, e, σ) (0, some (pvI r), true, n, e, σ) := by
    obtain ⟨g14, h⟩ := gd h
    cases h
    exact go_zret dX11_areThere_41 rfl g14 rfl
  clear h
  have h := k4
  refine go_if_eq (t := 40) (pc' := 9) dX11_areThere_6 rfl rfl (fun c15 => ?_) (fun c15 => ?_)
  · rw [if_pos (show v1 = 0 from c15)] at h
    refine go_iconst (pc' := 41) dX11_areThere_40 rfl (r32_c rfl) ?_
    cases h
    exact k4J
  · rw [if_neg (show ¬ (v1 = 0) from c15)] at h
    refine go_aload_n (pc' := 10) dX11_areThere_9 rfl rfl (Nat.le_of_ble_eq_true rfl) ?_
    refine go_iconst (pc' := 11) dX11_areThere_10 rfl (r32_c rfl) ?_
    refine go_iload_n (pc' := 12) dX11_areThere_11 rfl rfl ?_
    obtain ⟨v5, k6, h⟩ := bd h
    have k6 := l_M_is (d + 0) n e σ 1 x2 _ k6
    refine go_call (kc := 170) (Mc := mt170) (v := some (pvI v5)) (w' := (true, n, e, σ)) (pc' := 15) (st' := [pvI v5]) [pvR 11 0 129, pvI 1, pvI x2] [] (Or.inl rfl) dX11_areThere_12 rfl rm_11_156 mtE170 rfl rfl rfl (Nat.le_of_ble_eq_true rfl) (Or.inr ⟨_, _, 129, rfl, Or.inl rfl⟩) k6 rfl ?_
    refine go_if_eq (t := 40) (pc' := 18) dX11_areThere_15 rfl rfl (fun c13 => ?_) (fun c13 => ?_)
    · rw [if_pos (show v5 = 0 from c13)] at h
      refine go_iconst (pc' := 41) dX11_areThere_40 rfl (r32_c rfl) ?_
      cases h
      exact k4J
    · rw [if_neg (show ¬ (v5 = 0) from c13)] at h
      refine go_aload_n (pc' := 19) dX11_areThere_18 rfl rfl (Nat.le_of_ble_eq_true rfl) ?_
      refine go_iconst (pc' := 20) dX11_areThere_19 rfl (r32_c rfl) ?_
      refine go_iload_n (pc' := 21) dX11_areThere_20 rfl rfl ?_
      obtain ⟨v7, k8, h⟩ := bd h
      have k8 := l_M_is (d + 0) n e σ 2 x3 _ k8
      refine go_call (kc := 170) (Mc := mt170) (v := some (pvI v7)) (w' := (true, n, e, σ)) (pc' := 24) (st' := [pvI v7]) [pvR 11 0 129, pvI 2, pvI x3] [] (Or.inl rfl) dX11_areThere_21 rfl rm_11_156 mtE170 rfl rfl rfl (Nat.le_of_ble_eq_true rfl) (Or.inr ⟨_, _, 129, rfl, Or.inl rfl⟩) k8 rfl ?_
      refine go_if_eq (t := 40) (pc' := 27) dX11_areThere_24 rfl rfl (fun c12 => ?_) (fun c12 => ?_)
      · rw [if_pos (show v7 = 0 from c12)] at h
        refine go_iconst (pc' := 41) dX11_areThere_40 rfl (r32_c rfl) ?_
        cases h
        exact k4J
      · rw [if_neg (show ¬ (v7 = 0) from c12)] at h
        refine go_aload_n (pc' := 28) dX11_areThere_27 rfl rfl (Nat.le_of_ble_eq_true rfl) ?_
        refine go_iload (pc' := 30) dX11_areThere_28 rfl rfl ?_
        obtain ⟨v9, k10, h⟩ := bd h
        have k10 := l_M_isMeasure (d + 1) n e σ x4 _ k10
        refine go_call (kc := 193) (Mc := mt193) (v := some (pvI v9)) (w' := (true, n, e, σ)) (pc' := 33) (st' := [pvI v9]) [pvR 11 0 129, pvI x4] [] (Or.inl rfl) dX11_areThere_30 rfl rm_11_160 mtE193 rfl rfl rfl (Nat.le_of_ble_eq_true rfl) (Or.inr ⟨_, _, 129, rfl, Or.inl rfl⟩) k10 rfl ?_
        refine go_if_eq (t := 40) (pc' := 36) dX11_areThere_33 rfl rfl (fun c11 => ?_) (fun c11 => ?_)
        · rw [if_pos (show v9 = 0 from c11)] at h
          refine go_iconst (pc' := 41) dX11_areThere_40 rfl (r32_c rfl) ?_
          cases h
          exact k4J
        · rw [if_neg (show ¬ (v9 = 0) from c11)] at h
          refine go_iconst (pc' := 37) dX11_areThere_36 rfl (r32_c rfl) ?_
          refine go_goto (t := 41) dX11_areThere_37 rfl ?_
          cases h
          exact k4J

set_option maxRecDepth 10000 in
theorem l_M_found_6 (d : Nat) (n : Nat) (e : Nat) (σ : Hp) (x1 : Int) (x2 : Int) (x3 : Int) (x4 : Int) {out : Out} : ∀ (F : Nat) (y1 : Int) (y2 : Int) (j15 : Int × Int), f_M_found_6 σ x1 x2 x3 x4 F y1 y2 = some j15 → Go none (Ev (d + 0)) mt197 75 [some (pvR 11 0 129), some (pvI x1), some (pvI x2), some (pvI x3), some (pvI x4), some (pvI j15.1), some (pvI j15.2)] [] (true, n, e, σ) out → Go none (Ev (d + 0)) mt197 6 [some (pvR 11 0 129), some (pvI x1), some (pvI x2), some (pvI x3), some (pvI x4), some (pvI y1), some (pvI y2)] [] (true, n, e, σ) out := by
  intro F
  induction F with
  | zero =>
    intro _ _ _ h
    intro _
    rw [f_M_found_6] at h
    cases h
  | succ F ih =>
    intro y1 y2 j15 h hx
    rw [f_M_found_6] at h
    refine go_iload (pc' := 8) dX11_found_6 rfl rfl ?_
    refine go_aload_n (pc' := 9) dX11_found_8 rfl rfl (Nat.le_of_ble_eq_true rfl) ?_
    refine go_getI (pc' := 12) dX11_found_9 rfl rf_11_230 rfl ?_
    refine go_icmp_ge (t := 75) (pc' := 15) dX11_found_12 rfl rfl (fun c14 => ?_) (fun c14 => ?_)
    · rw [if_pos (show (σ 129 29) ≤ y2 from c14)] at h
      cases h
      exact hx
    · rw [if_neg (show ¬ ((σ 129 29) ≤ y2) from c14)] at h
      refine go_aload_n (pc' := 16) dX11_found_15 rfl rfl (Nat.le_of_ble_eq_true rfl) ?_
      refine go_getR (k' := 12) (L0 := 51) (P' := 150) (pc' := 19) dX11_found_16 rfl rf_11_72 rfl rfl (by omega) ?_
      refine go_iload (pc' := 21) dX11_found_19 rfl rfl ?_
      obtain ⟨g3, h⟩ := gd h
      refine go_iald (pc' := 22) dX11_found_21 rfl g3 ?_
      refine go_iload_n (pc' := 23) dX11_found_22 rfl rfl ?_
      obtain ⟨j4, k5, h⟩ := bd h
      have k5J : Go none (Ev (d + 0)) mt197 67 [some (pvR 11 0 129), some (pvI x1), some (pvI x2), some (pvI x3), some (pvI x4), some (pvI y1), some (pvI y2)] [pvI j4] (true, n, e, σ) out := by
        refine go_istore (L' := [some (pvR 11 0 129), some (pvI x1), some (pvI x2), some (pvI x3), some (pvI x4), some (pvI j4), some (pvI y2)]) (pc' := 69) dX11_found_67 rfl (Nat.le_of_ble_eq_true rfl) rfl ?_
        obtain ⟨g12, h⟩ := gd h
        refine go_iinc (L' := [some (pvR 11 0 129), some (pvI x1), some (pvI x2), some (pvI x3), some (pvI x4), some (pvI j4), some (pvI (y2 + 1))]) (pc' := 72) dX11_found_69 rfl rfl g12 rfl ?_
        refine go_goto (t := 6) dX11_found_72 rfl ?_
        exact ih j4 (y2 + 1) _ h hx
      clear h
      have h := k5
      refine go_icmp_ne (t := 65) (pc' := 26) dX11_found_23 rfl rfl (fun c13 => ?_) (fun c13 => ?_)
      · rw [if_pos (show (σ 150 y2) ≠ x1 from c13)] at h
        refine go_iload (pc' := 67) dX11_found_65 rfl rfl ?_
        cases h
        exact k5J
      · rw [if_neg (show ¬ ((σ 150 y2) ≠ x1) from c13)] at h
        refine go_aload_n (pc' := 27) dX11_found_26 rfl rfl (Nat.le_of_ble_eq_true rfl) ?_
        refine go_getR (k' := 12) (L0 := 51) (P' := 151) (pc' := 30) dX11_found_27 rfl rf_11_75 rfl rfl (by omega) ?_
        refine go_iload (pc' := 32) dX11_found_30 rfl rfl ?_
        obtain ⟨g6, h⟩ := gd h
        refine go_iald (pc' := 33) dX11_found_32 rfl g6 ?_
        refine go_iload_n (pc' := 34) dX11_found_33 rfl rfl ?_
        refine go_icmp_ne (t := 65) (pc' := 37) dX11_found_34 rfl rfl (fun c11 => ?_) (fun c11 => ?_)
        · rw [if_pos (show (σ 151 y2) ≠ x2 from c11)] at h
          refine go_iload (pc' := 67) dX11_found_65 rfl rfl ?_
          cases h
          exact k5J
        · rw [if_neg (show ¬ ((σ 151 y2) ≠ x2) from c11)] at h
          refine go_aload_n (pc' := 38) dX11_found_37 rfl rfl (Nat.le_of_ble_eq_true rfl) ?_
          refine go_getR (k' := 12) (L0 := 51) (P' := 152) (pc' := 41) dX11_found_38 rfl rf_11_78 rfl rfl (by omega) ?_
          refine go_iload (pc' := 43) dX11_found_41 rfl rfl ?_
          obtain ⟨g7, h⟩ := gd h
          refine go_iald (pc' := 44) dX11_found_43 rfl g7 ?_
          refine go_iload_n (pc' := 45) dX11_found_44 rfl rfl ?_
          refine go_icmp_ne (t := 65) (pc' := 48) dX11_found_45 rfl rfl (fun c10 => ?_) (fun c10 => ?_)
          · rw [if_pos (show (σ 152 y2) ≠ x3 from c10)] at h
            refine go_iload (pc' := 67) dX11_found_65 rfl rfl ?_
            cases h
            exact k5J
          · rw [if_neg (show ¬ ((σ 152 y2) ≠ x3) from c10)] at h
            refine go_aload_n (pc' := 49) dX11_found_48 rfl rfl (Nat.le_of_ble_eq_true rfl) ?_
            refine go_getR (k' := 12) (L0 := 51) (P' := 153) (pc' := 52) dX11_found_49 rfl rf_11_81 rfl rfl (by omega) ?_
            refine go_iload (pc' := 54) dX11_found_52 rfl rfl ?_
            obtain ⟨g8, h⟩ := gd h
            refine go_iald (pc' := 55) dX11_found_54 rfl g8 ?_
            refine go_iload (pc' := 57) dX11_found_55 rfl rfl ?_
            refine go_icmp_ne (t := 65) (pc' := 60) dX11_found_57 rfl rfl (fun c9 => ?_) (fun c9 => ?_)
            · rw [if_pos (show (σ 153 y2) ≠ x4 from c9)] at h
              refine go_iload (pc' := 67) dX11_found_65 rfl rfl ?_
              cases h
              exact k5J
            · rw [if_neg (show ¬ ((σ 153 y2) ≠ x4) from c9)] at h
              refine go_iload (pc' := 62) dX11_found_60 rfl rfl ?_
              refine go_goto (t := 67) dX11_found_62 rfl ?_
              cases h
              exact k5J

set_option maxRecDepth 10000 in
theorem l_M_found (d : Nat) (n e : Nat) (σ : Hp) (x1 : Int) (x2 : Int) (x3 : Int) (x4 : Int) (r : Int) (h : f_M_found σ x1 x2 x3 x4 = some r) : Ev (d + 1) 197 [pvR 11 0 129, pvI x1, pvI x2, pvI x3, pvI x4] (true, n, e, σ) (0, some (pvI r), true, n, e, σ) := by
  unfold f_M_found at h
  refine Ev.of mtE197 rfl rfl rfl rfl ?_
  show Go none (Ev (d + 0)) mt197 0 [some (pvR 11 0 129), some (pvI x1), some (pvI x2), some (pvI x3), some (pvI x4), none, none] [] (true, n, e, σ) (0, some (pvI r), true, n, e, σ)
  refine go_iconst (pc' := 1) dX11_found_0 rfl (r32_c rfl) ?_
  refine go_istore (L' := [some (pvR 11 0 129), some (pvI x1), some (pvI x2), some (pvI x3), some (pvI x4), some (pvI (-1)), none]) (pc' := 3) dX11_found_1 rfl (Nat.le_of_ble_eq_true rfl) rfl ?_
  refine go_iconst (pc' := 4) dX11_found_3 rfl (r32_c rfl) ?_
  refine go_istore (L' := [some (pvR 11 0 129), some (pvI x1), some (pvI x2), some (pvI x3), some (pvI x4), some (pvI (-1)), some (pvI 0)]) (pc' := 6) dX11_found_4 rfl (Nat.le_of_ble_eq_true rfl) rfl ?_
  obtain ⟨j16, k17, h⟩ := bd h
  refine l_M_found_6 d n e σ x1 x2 x3 x4 zFuel (-1) 0 _ k17 ?_
  refine go_iload (pc' := 77) dX11_found_75 rfl rfl ?_
  cases h
  exact go_iret dX11_found_77 rfl rfl

set_option maxRecDepth 10000 in
theorem l_M_lay (d : Nat) (n e : Nat) (σ : Hp) (x1 : Int) (x2 : Int) (x3 : Int) (x4 : Int) (x5 : Int) (x6 : Int) (r : Hp) (h : f_M_lay σ x1 x2 x3 x4 x5 x6 = some r) : Ev (d + 1) 199 [pvR 11 0 129, pvI x1, pvI x2, pvI x3, pvI x4, pvI x5, pvI x6] (true, n, e, σ) (0, none, true, n, e, r) := by
  unfold f_M_lay at h
  refine Ev.of mtE199 rfl rfl rfl rfl ?_
  show Go none (Ev (d + 0)) mt199 0 [some (pvR 11 0 129), some (pvI x1), some (pvI x2), some (pvI x3), some (pvI x4), some (pvI x5), some (pvI x6)] [] (true, n, e, σ) (0, none, true, n, e, r)
  refine go_aload_n (pc' := 1) dX11_lay_0 rfl rfl (Nat.le_of_ble_eq_true rfl) ?_
  refine go_getR (k' := 12) (L0 := 51) (P' := 150) (pc' := 4) dX11_lay_1 rfl rf_11_72 rfl rfl (by omega) ?_
  refine go_iload_n (pc' := 5) dX11_lay_4 rfl rfl ?_
  refine go_iload_n (pc' := 6) dX11_lay_5 rfl rfl ?_
  obtain ⟨g1, h⟩ := gd h
  refine go_iast (pc' := 7) dX11_lay_6 rfl g1 ?_
  refine go_aload_n (pc' := 8) dX11_lay_7 rfl rfl (Nat.le_of_ble_eq_true rfl) ?_
  refine go_getR (k' := 12) (L0 := 51) (P' := 151) (pc' := 11) dX11_lay_8 rfl rf_11_75 rfl rfl (by omega) ?_
  refine go_iload_n (pc' := 12) dX11_lay_11 rfl rfl ?_
  refine go_iload_n (pc' := 13) dX11_lay_12 rfl rfl ?_
  obtain ⟨g2, h⟩ := gd h
  refine go_iast (pc' := 14) dX11_lay_13 rfl g2 ?_
  refine go_aload_n (pc' := 15) dX11_lay_14 rfl rfl (Nat.le_of_ble_eq_true rfl) ?_
  refine go_getR (k' := 12) (L0 := 51) (P' := 152) (pc' := 18) dX11_lay_15 rfl rf_11_78 rfl rfl (by omega) ?_
  refine go_iload_n (pc' := 19) dX11_lay_18 rfl rfl ?_
  refine go_iload (pc' := 21) dX11_lay_19 rfl rfl ?_
  obtain ⟨g3, h⟩ := gd h
  refine go_iast (pc' := 22) dX11_lay_21 rfl g3 ?_
  refine go_aload_n (pc' := 23) dX11_lay_22 rfl rfl (Nat.le_of_ble_eq_true rfl) ?_
  refine go_getR (k' := 12) (L0 := 51) (P' := 153) (pc' := 26) dX11_lay_23 rfl rf_11_81 rfl rfl (by omega) ?_
  refine go_iload_n (pc' := 27) dX11_lay_26 rfl rfl ?_
  refine go_iload (pc' := 29) dX11_lay_27 rfl rfl ?_
  obtain ⟨g4, h⟩ := gd h
  refine go_iast (pc' := 30) dX11_lay_29 rfl g4 ?_
  refine go_aload_n (pc' := 31) dX11_lay_30 rfl rfl (Nat.le_of_ble_eq_true rfl) ?_
  refine go_getR (k' := 12) (L0 := 51) (P' := 154) (pc' := 34) dX11_lay_31 rfl rf_11_84 rfl rfl (by omega) ?_
  refine go_iload_n (pc' := 35) dX11_lay_34 rfl rfl ?_
  refine go_iload (pc' := 37) dX11_lay_35 rfl rfl ?_
  obtain ⟨g5, h⟩ := gd h
  refine go_iast (pc' := 38) dX11_lay_37 rfl g5 ?_
  cases h
  exact go_vret dX11_lay_38 rfl rfl

set_option maxRecDepth 10000 in
theorem l_M_needs_7 (d : Nat) (n : Nat) (e : Nat) (σ : Hp) (x1 : Int) (x2 : Int) {out : Out} : ∀ (F : Nat) (y1 : Int) (y2 : Int) (j15 : Int × Int), f_M_needs_7 σ F y1 y2 = some j15 → Go none (Ev (d + 0)) mt201 77 [some (pvR 11 0 129), some (pvI x1), some (pvI x2), some (pvI j15.1), some (pvI j15.2), none] [] (true, n, e, σ) out → Go none (Ev (d + 0)) mt201 7 [some (pvR 11 0 129), some (pvI x1), some (pvI x2), some (pvI y1), some (pvI y2), none] [] (true, n, e, σ) out := by
  intro F
  induction F with
  | zero =>
    intro _ _ _ h
    intro _
    rw [f_M_needs_7] at h
    cases h
  | succ F ih =>
    intro y1 y2 j15 h hx
    rw [f_M_needs_7] at h
    refine go_iload (pc' := 9) dX11_needs_7 rfl rfl ?_
    refine go_if_lt (t := 77) (pc' := 12) dX11_needs_9 rfl rfl (fun c14 => ?_) (fun c14 => ?_)
    · rw [if_pos (show y2 < 0 from c14)] at h
      cases h
      exact hx
    · rw [if_neg (show ¬ (y2 < 0) from c14)] at h
      refine go_iload_n (pc' := 13) dX11_needs_12 rfl rfl ?_
      refine go_iload (pc' := 15) dX11_needs_13 rfl rfl ?_
      refine go_ishr (pc' := 16) dX11_needs_15 rfl ?_
      refine go_iconst (pc' := 17) dX11_needs_16 rfl (r32_c rfl) ?_
      refine go_iand (pc' := 18) dX11_needs_17 rfl ?_
      refine go_iconst (pc' := 19) dX11_needs_18 rfl (r32_c rfl) ?_
      obtain ⟨j3, k4, h⟩ := bd h
      have k4J : Go none (Ev (d + 0)) mt201 38 [some (pvR 11 0 129), some (pvI x1), some (pvI x2), some (pvI y1), some (pvI y2), none] [pvI j3] (true, n, e, σ) out := by
        refine go_istore (L' := [some (pvR 11 0 129), some (pvI x1), some (pvI x2), some (pvI y1), some (pvI y2), some (pvI j3)]) (pc' := 40) dX11_needs_38 rfl (Nat.le_of_ble_eq_true rfl) rfl ?_
        refine go_iload_n (pc' := 41) dX11_needs_40 rfl rfl ?_
        refine go_iload (pc' := 43) dX11_needs_41 rfl rfl ?_
        obtain ⟨j7, k8, h⟩ := bd h
        have k8J : Go none (Ev (d + 0)) mt201 69 [some (pvR 11 0 129), some (pvI x1), some (pvI x2), some (pvI y1), some (pvI y2), some (pvI j3)] [pvI j7, pvI y1] (true, n, e, σ) out := by
          refine go_ior (pc' := 70) dX11_needs_69 rfl ?_
          refine go_istore_n (L' := [some (pvR 11 0 129), some (pvI x1), some (pvI x2), some (pvI (ior y1 j7)), some (pvI y2), some (pvI j3)]) (pc' := 71) dX11_needs_70 rfl (Nat.le_of_ble_eq_true rfl) rfl ?_
          obtain ⟨g11, h⟩ := gd h
          refine go_iinc (L' := [some (pvR 11 0 129), some (pvI x1), some (pvI x2), some (pvI (ior y1 j7)), some (pvI (y2 + (-1))), some (pvI j3)]) (pc' := 74) dX11_needs_71 rfl rfl g11 rfl ?_
          refine go_goto (t := 7) dX11_needs_74 rfl ?_
          exact go_sub (ih (ior y1 j7) (y2 + (-1)) _ h hx) ⟨Or.inr rfl, Or.inr rfl, Or.inr rfl, Or.inr rfl, Or.inr rfl, Or.inl rfl, trivial⟩
        clear h
        have h := k8
        refine go_if_eq (t := 68) (pc' := 46) dX11_needs_43 rfl rfl (fun c12 => ?_) (fun c12 => ?_)
        · rw [if_pos (show j3 = 0 from c12)] at h
          refine go_iconst (pc' := 69) dX11_needs_68 rfl (r32_c rfl) ?_
          cases h
          exact k8J
        · rw [if_neg (show ¬ (j3 = 0) from c12)] at h
          refine go_iconst (pc' := 47) dX11_needs_46 rfl (r32_c rfl) ?_
          refine go_aload_n (pc' := 48) dX11_needs_47 rfl rfl (Nat.le_of_ble_eq_true rfl) ?_
          refine go_getR (k' := 12) (L0 := 4) (P' := 147) (pc' := 51) dX11_needs_48 rfl rf_11_63 rfl rfl (by omega) ?_
          refine go_iload (pc' := 53) dX11_needs_51 rfl rfl ?_
          obtain ⟨g9, h⟩ := gd h
          refine go_iald (pc' := 54) dX11_needs_53 rfl g9 ?_
          refine go_ishl (pc' := 55) dX11_needs_54 rfl ?_
          refine go_iconst (pc' := 56) dX11_needs_55 rfl (r32_c rfl) ?_
          refine go_aload_n (pc' := 57) dX11_needs_56 rfl rfl (Nat.le_of_ble_eq_true rfl) ?_
          refine go_getR (k' := 12) (L0 := 4) (P' := 148) (pc' := 60) dX11_needs_57 rfl rf_11_66 rfl rfl (by omega) ?_
          refine go_iload (pc' := 62) dX11_needs_60 rfl rfl ?_
          obtain ⟨g10, h⟩ := gd h
          refine go_iald (pc' := 63) dX11_needs_62 rfl g10 ?_
          refine go_ishl (pc' := 64) dX11_needs_63 rfl ?_
          refine go_ior (pc' := 65) dX11_needs_64 rfl ?_
          refine go_goto (t := 69) dX11_needs_65 rfl ?_
          cases h
          exact k8J
      clear h
      have h := k4
      refine go_icmp_ne (t := 37) (pc' := 22) dX11_needs_19 rfl rfl (fun c13 => ?_) (fun c13 => ?_)
      · rw [if_pos (show (iand (ishr y1 y2) 1) ≠ 1 from c13)] at h
        refine go_iconst (pc' := 38) dX11_needs_37 rfl (r32_c rfl) ?_
        cases h
        exact k4J
      · rw [if_neg (show ¬ ((iand (ishr y1 y2) 1) ≠ 1) from c13)] at h
        refine go_aload_n (pc' := 23) dX11_needs_22 rfl rfl (Nat.le_of_ble_eq_true rfl) ?_
        refine go_getR (k' := 12) (L0 := 4) (P' := 146) (pc' := 26) dX11_needs_23 rfl rf_11_60 rfl rfl (by omega) ?_
        refine go_iload (pc' := 28) dX11_needs_26 rfl rfl ?_
        obtain ⟨g5, h⟩ := gd h
        refine go_iald (pc' := 29) dX11_needs_28 rfl g5 ?_
        refine go_iconst (pc' := 30) dX11_needs_29 rfl (r32_c rfl) ?_
        refine go_icmp_ne (t := 37) (pc' := 33) dX11_needs_30 rfl rfl (fun c6 => ?_) (fun c6 => ?_)
        · rw [if_pos (show (σ 146 y2) ≠ 3 from c6)] at h
          refine go_iconst (pc' := 38) dX11_needs_37 rfl (r32_c rfl) ?_
          cases h
          exact k4J
        · rw [if_neg (show ¬ ((σ 146 y2) ≠ 3) from c6)] at h
          refine go_iconst (pc' := 34) dX11_needs_33 rfl (r32_c rfl) ?_
          refine go_goto (t := 38) dX11_needs_34 rfl ?_
          cases h
          exact k4J

set_option maxRecDepth 10000 in
theorem l_M_needs (d : Nat) (n e : Nat) (σ : Hp) (x1 : Int) (x2 : Int) (r : Int) (h : f_M_needs σ x1 x2 = some r) : Ev (d + 1) 201 [pvR 11 0 129, pvI x1, pvI x2] (true, n, e, σ) (0, some (pvI r), true, n, e, σ) := by
  unfold f_M_needs at h
  refine Ev.of mtE201 rfl rfl rfl rfl ?_
  show Go none (Ev (d + 0)) mt201 0 [some (pvR 11 0 129), some (pvI x1), some (pvI x2), none, none, none] [] (true, n, e, σ) (0, some (pvI r), true, n, e, σ)
  refine go_iconst (pc' := 1) dX11_needs_0 rfl (r32_c rfl) ?_
  refine go_iload_n (pc' := 2) dX11_needs_1 rfl rfl ?_
  refine go_ishl (pc' := 3) dX11_needs_2 rfl ?_
  refine go_istore_n (L' := [some (pvR 11 0 129), some (pvI x1), some (pvI x2), some (pvI (ishl 1 x1)), none, none]) (pc' := 4) dX11_needs_3 rfl (Nat.le_of_ble_eq_true rfl) rfl ?_
  refine go_iload_n (pc' := 5) dX11_needs_4 rfl rfl ?_
  refine go_istore (L' := [some (pvR 11 0 129), some (pvI x1), some (pvI x2), some (pvI (ishl 1 x1)), some (pvI x1), none]) (pc' := 7) dX11_needs_5 rfl (Nat.le_of_ble_eq_true rfl) rfl ?_
  obtain ⟨j16, k17, h⟩ := bd h
  refine l_M_needs_7 d n e σ x1 x2 zFuel (ishl 1 x1) x1 _ k17 ?_
  refine go_iload_n (pc' := 78) dX11_needs_77 rfl rfl ?_
  refine go_iload_n (pc' := 79) dX11_needs_78 rfl rfl ?_
  refine go_ishr (pc' := 80) dX11_needs_79 rfl ?_
  refine go_iconst (pc' := 81) dX11_needs_80 rfl (r32_c rfl) ?_
  refine go_iand (pc' := 82) dX11_needs_81 rfl ?_
  refine go_iconst (pc' := 83) dX11_needs_82 rfl (r32_c rfl) ?_
  obtain ⟨j18, k19, h⟩ := bd h
  have k19J : Go none (Ev (d + 0)) mt201 91 [some (pvR 11 0 129), some (pvI x1), some (pvI x2), some (pvI j16.1), some (pvI j16.2), none] [pvI j18] (true, n, e, σ) (0, some (pvI r), true, n, e, σ) := by
    obtain ⟨g20, h⟩ := gd h
    cases h
    exact go_zret dX11_needs_91 rfl g20 rfl
  clear h
  have h := k19
  refine go_icmp_ne (t := 90) (pc' := 86) dX11_needs_83 rfl rfl (fun c21 => ?_) (fun c21 => ?_)
  · rw [if_pos (show (iand (ishr j16.1 x2) 1) ≠ 1 from c21)] at h
    refine go_iconst (pc' := 91) dX11_needs_90 rfl (r32_c rfl) ?_
    cases h
    exact k19J
  · rw [if_neg (show ¬ ((iand (ishr j16.1 x2) 1) ≠ 1) from c21)] at h
    refine go_iconst (pc' := 87) dX11_needs_86 rfl (r32_c rfl) ?_
    refine go_goto (t := 91) dX11_needs_87 rfl ?_
    cases h
    exact k19J

set_option maxRecDepth 10000 in
theorem l_M_weightTo_6 (d : Nat) (n : Nat) (e : Nat) (σ : Hp) (x1 : Int) (x2 : Int) (x3 : Int) (x4 : Int) {out : Out} : ∀ (F : Nat) (y1 : Int) (y2 : Int) (j14 : Int × Int), f_M_weightTo_6 σ x1 x3 x4 F y1 y2 = some j14 → Go none (Ev (d + 1)) mt204 57 [some (pvR 11 0 129), some (pvI x1), some (pvI x2), some (pvI x3), some (pvI x4), some (pvI j14.1), some (pvI j14.2)] [] (true, n, e, σ) out → Go none (Ev (d + 1)) mt204 6 [some (pvR 11 0 129), some (pvI x1), some (pvI x2), some (pvI x3), some (pvI x4), some (pvI y1), some (pvI y2)] [] (true, n, e, σ) out := by
  intro F
  induction F with
  | zero =>
    intro _ _ _ h
    intro _
    rw [f_M_weightTo_6] at h
    cases h
  | succ F ih =>
    intro y1 y2 j14 h hx
    rw [f_M_weightTo_6] at h
    refine go_iload (pc' := 8) dX11_weightTo_6 rfl rfl ?_
    refine go_iload_n (pc' := 9) dX11_weightTo_8 rfl rfl ?_
    refine go_icmp_le (t := 57) (pc' := 12) dX11_weightTo_9 rfl rfl (fun c13 => ?_) (fun c13 => ?_)
    · rw [if_pos (show y2 ≤ x3 from c13)] at h
      cases h
      exact hx
    · rw [if_neg (show ¬ (y2 ≤ x3) from c13)] at h
      refine go_iload (pc' := 14) dX11_weightTo_12 rfl rfl ?_
      refine go_aload_n (pc' := 15) dX11_weightTo_14 rfl rfl (Nat.le_of_ble_eq_true rfl) ?_
      refine go_getR (k' := 12) (L0 := 36) (P' := 133) (pc' := 18) dX11_weightTo_15 rfl rf_11_21 rfl rfl (by omega) ?_
      refine go_bipush (pc' := 20) dX11_weightTo_18 rfl (r32_c rfl) (by decide) ?_
      refine go_iload_n (pc' := 21) dX11_weightTo_20 rfl rfl ?_
      obtain ⟨g3, h⟩ := gd h
      refine go_imul (pc' := 22) dX11_weightTo_21 rfl g3 ?_
      refine go_iload (pc' := 24) dX11_weightTo_22 rfl rfl ?_
      obtain ⟨g4, h⟩ := gd h
      refine go_iadd (pc' := 25) dX11_weightTo_24 rfl g4 ?_
      obtain ⟨g5, h⟩ := gd h
      refine go_iald (pc' := 26) dX11_weightTo_25 rfl g5 ?_
      obtain ⟨g6, h⟩ := gd h
      refine go_imul (pc' := 27) dX11_weightTo_26 rfl g6 ?_
      refine go_istore (L' := [some (pvR 11 0 129), some (pvI x1), some (pvI x2), some (pvI x3), some (pvI x4), some (pvI (y1 * (σ 133 ((12 * x1) + y2)))), some (pvI y2)]) (pc' := 29) dX11_weightTo_27 rfl (Nat.le_of_ble_eq_true rfl) rfl ?_
      refine go_iload_n (pc' := 30) dX11_weightTo_29 rfl rfl ?_
      obtain ⟨j7, k8, h⟩ := bd h
      have k8J : Go none (Ev (d + 1)) mt204 52 [some (pvR 11 0 129), some (pvI x1), some (pvI x2), some (pvI x3), some (pvI x4), some (pvI (y1 * (σ 133 ((12 * x1) + y2)))), some (pvI y2)] [pvI j7] (true, n, e, σ) out := by
        refine go_istore (L' := [some (pvR 11 0 129), some (pvI x1), some (pvI x2), some (pvI x3), some (pvI x4), some (pvI (y1 * (σ 133 ((12 * x1) + y2)))), some (pvI j7)]) (pc' := 54) dX11_weightTo_52 rfl (Nat.le_of_ble_eq_true rfl) rfl ?_
        refine go_goto (t := 6) dX11_weightTo_54 rfl ?_
        exact ih (y1 * (σ 133 ((12 * x1) + y2))) j7 _ h hx
      clear h
      have h := k8
      refine go_if_ne (t := 43) (pc' := 33) dX11_weightTo_30 rfl rfl (fun c12 => ?_) (fun c12 => ?_)
      · rw [if_pos (show x1 ≠ 0 from c12)] at h
        refine go_aload_n (pc' := 44) dX11_weightTo_43 rfl rfl (Nat.le_of_ble_eq_true rfl) ?_
        refine go_iload_n (pc' := 45) dX11_weightTo_44 rfl rfl ?_
        refine go_iload (pc' := 47) dX11_weightTo_45 rfl rfl ?_
        refine go_iload (pc' := 49) dX11_weightTo_47 rfl rfl ?_
        obtain ⟨v9, k10, h⟩ := bd h
        have k10 := l_M_parent (d + 0) n e σ x1 y2 x4 _ k10
        refine go_call (kc := 182) (Mc := mt182) (v := some (pvI v9)) (w' := (true, n, e, σ)) (pc' := 52) (st' := [pvI v9]) [pvR 11 0 129, pvI x1, pvI y2, pvI x4] [] (Or.inl rfl) dX11_weightTo_49 rfl rm_11_169 mtE182 rfl rfl rfl (Nat.le_of_ble_eq_true rfl) (Or.inr ⟨_, _, 129, rfl, Or.inl rfl⟩) k10 rfl ?_
        cases h
        exact k8J
      · rw [if_neg (show ¬ (x1 ≠ 0) from c12)] at h
        refine go_aload_n (pc' := 34) dX11_weightTo_33 rfl rfl (Nat.le_of_ble_eq_true rfl) ?_
        refine go_getR (k' := 12) (L0 := 36) (P' := 132) (pc' := 37) dX11_weightTo_34 rfl rf_11_18 rfl rfl (by omega) ?_
        refine go_iload (pc' := 39) dX11_weightTo_37 rfl rfl ?_
        obtain ⟨g11, h⟩ := gd h
        refine go_iald (pc' := 40) dX11_weightTo_39 rfl g11 ?_
        refine go_goto (t := 52) dX11_weightTo_40 rfl ?_
        cases h
        exact k8J

set_option maxRecDepth 10000 in
theorem l_M_weightTo (d : Nat) (n e : Nat) (σ : Hp) (x1 : Int) (x2 : Int) (x3 : Int) (x4 : Int) (r : Int) (h : f_M_weightTo σ x1 x2 x3 x4 = some r) : Ev (d + 2) 204 [pvR 11 0 129, pvI x1, pvI x2, pvI x3, pvI x4] (true, n, e, σ) (0, some (pvI r), true, n, e, σ) := by
  unfold f_M_weightTo at h
  refine Ev.of mtE204 rfl rfl rfl rfl ?_
  show Go none (Ev (d + 1)) mt204 0 [some (pvR 11 0 129), some (pvI x1), some (pvI x2), some (pvI x3), some (pvI x4), none, none] [] (true, n, e, σ) (0, some (pvI r), true, n, e, σ)
  refine go_iconst (pc' := 1) dX11_weightTo_0 rfl (r32_c rfl) ?_
  refine go_istore (L' := [some (pvR 11 0 129), some (pvI x1), some (pvI x2), some (pvI x3), some (pvI x4), some (pvI 1), none]) (pc' := 3) dX11_weightTo_1 rfl (Nat.le_of_ble_eq_true rfl) rfl ?_
  refine go_iload_n (pc' := 4) dX11_weightTo_3 rfl rfl ?_
  refine go_istore (L' := [some (pvR 11 0 129), some (pvI x1), some (pvI x2), some (pvI x3), some (pvI x4), some (pvI 1), some (pvI x2)]) (pc' := 6) dX11_weightTo_4 rfl (Nat.le_of_ble_eq_true rfl) rfl ?_
  obtain ⟨j15, k16, h⟩ := bd h
  refine l_M_weightTo_6 d n e σ x1 x2 x3 x4 zFuel 1 x2 _ k16 ?_
  refine go_iload (pc' := 59) dX11_weightTo_57 rfl rfl ?_
  refine go_iload_n (pc' := 60) dX11_weightTo_59 rfl rfl ?_
  obtain ⟨j17, k18, h⟩ := bd h
  have k18J : Go none (Ev (d + 1)) mt204 69 [some (pvR 11 0 129), some (pvI x1), some (pvI x2), some (pvI x3), some (pvI x4), some (pvI j15.1), some (pvI j15.2)] [pvI j17] (true, n, e, σ) (0, some (pvI r), true, n, e, σ) := by
    cases h
    exact go_iret dX11_weightTo_69 rfl rfl
  clear h
  have h := k18
  refine go_icmp_ne (t := 68) (pc' := 63) dX11_weightTo_60 rfl rfl (fun c19 => ?_) (fun c19 => ?_)
  · rw [if_pos (show j15.2 ≠ x3 from c19)] at h
    refine go_iconst (pc' := 69) dX11_weightTo_68 rfl (r32_c rfl) ?_
    cases h
    exact k18J
  · rw [if_neg (show ¬ (j15.2 ≠ x3) from c19)] at h
    refine go_iload (pc' := 65) dX11_weightTo_63 rfl rfl ?_
    refine go_goto (t := 69) dX11_weightTo_65 rfl ?_
    cases h
    exact k18J

set_option maxRecDepth 10000 in
theorem l_M_weight_34 (d : Nat) (n : Nat) (e : Nat) (σ : Hp) (x1 : Int) (x2 : Int) (x3 : Int) (x4 : Int) {out : Out} : ∀ (F : Nat) (y4 : Int) (y5 : Int) (j17 : Int × Int), f_M_weight_34 σ x1 x2 x3 x4 F y4 y5 = some j17 → Go none (Ev (d + 2)) mt203 96 [some (pvR 11 0 129), some (pvI x1), some (pvI x2), some (pvI x3), some (pvI x4), some (pvI ((12 * x1) + x3)), some (pvI j17.1), some (pvI j17.2)] [] (true, n, e, σ) out → Go none (Ev (d + 2)) mt203 34 [some (pvR 11 0 129), some (pvI x1), some (pvI x2), some (pvI x3), some (pvI x4), some (pvI ((12 * x1) + x3)), some (pvI y4), some (pvI y5)] [] (true, n, e, σ) out := by
  intro F
  induction F with
  | zero =>
    intro _ _ _ h
    intro _
    rw [f_M_weight_34] at h
    cases h
  | succ F ih =>
    intro y4 y5 j17 h hx
    rw [f_M_weight_34] at h
    refine go_iload (pc' := 36) dX11_weight_34 rfl rfl ?_
    refine go_bipush (pc' := 38) dX11_weight_36 rfl (r32_c rfl) (by decide) ?_
    refine go_icmp_ge (t := 96) (pc' := 41) dX11_weight_38 rfl rfl (fun c16 => ?_) (fun c16 => ?_)
    · rw [if_pos (show 12 ≤ y5 from c16)] at h
      cases h
      exact hx
    · rw [if_neg (show ¬ (12 ≤ y5) from c16)] at h
      refine go_aload_n (pc' := 42) dX11_weight_41 rfl rfl (Nat.le_of_ble_eq_true rfl) ?_
      refine go_getR (k' := 12) (L0 := 36) (P' := 131) (pc' := 45) dX11_weight_42 rfl rf_11_15 rfl rfl (by omega) ?_
      refine go_iload (pc' := 47) dX11_weight_45 rfl rfl ?_
      obtain ⟨g6, h⟩ := gd h
      refine go_iald (pc' := 48) dX11_weight_47 rfl g6 ?_
      refine go_iconst (pc' := 49) dX11_weight_48 rfl (r32_c rfl) ?_
      refine go_icmp_ne (t := 96) (pc' := 52) dX11_weight_49 rfl rfl (fun c15 => ?_) (fun c15 => ?_)
      · rw [if_pos (show (σ 131 ((12 * x1) + x3)) ≠ 1 from c15)] at h
        cases h
        exact hx
      · rw [if_neg (show ¬ ((σ 131 ((12 * x1) + x3)) ≠ 1) from c15)] at h
        refine go_iload (pc' := 54) dX11_weight_52 rfl rfl ?_
        refine go_iconst (pc' := 55) dX11_weight_54 rfl (r32_c rfl) ?_
        refine go_icmp_ne (t := 96) (pc' := 58) dX11_weight_55 rfl rfl (fun c14 => ?_) (fun c14 => ?_)
        · rw [if_pos (show y4 ≠ 2 from c14)] at h
          cases h
          exact hx
        · rw [if_neg (show ¬ (y4 ≠ 2) from c14)] at h
          refine go_aload_n (pc' := 59) dX11_weight_58 rfl rfl (Nat.le_of_ble_eq_true rfl) ?_
          refine go_getR (k' := 12) (L0 := 36) (P' := 134) (pc' := 62) dX11_weight_59 rfl rf_11_24 rfl rfl (by omega) ?_
          refine go_iload (pc' := 64) dX11_weight_62 rfl rfl ?_
          obtain ⟨g7, h⟩ := gd h
          refine go_iald (pc' := 65) dX11_weight_64 rfl g7 ?_
          refine go_iload (pc' := 67) dX11_weight_65 rfl rfl ?_
          refine go_ishr (pc' := 68) dX11_weight_67 rfl ?_
          refine go_iconst (pc' := 69) dX11_weight_68 rfl (r32_c rfl) ?_
          refine go_iand (pc' := 70) dX11_weight_69 rfl ?_
          refine go_iconst (pc' := 71) dX11_weight_70 rfl (r32_c rfl) ?_
          obtain ⟨j8, k9, h⟩ := bd h
          have k9J : Go none (Ev (d + 2)) mt203 88 [some (pvR 11 0 129), some (pvI x1), some (pvI x2), some (pvI x3), some (pvI x4), some (pvI ((12 * x1) + x3)), some (pvI y4), some (pvI y5)] [pvI j8] (true, n, e, σ) out := by
            refine go_istore (L' := [some (pvR 11 0 129), some (pvI x1), some (pvI x2), some (pvI x3), some (pvI x4), some (pvI ((12 * x1) + x3)), some (pvI j8), some (pvI y5)]) (pc' := 90) dX11_weight_88 rfl (Nat.le_of_ble_eq_true rfl) rfl ?_
            obtain ⟨g12, h⟩ := gd h
            refine go_iinc (L' := [some (pvR 11 0 129), some (pvI x1), some (pvI x2), some (pvI x3), some (pvI x4), some (pvI ((12 * x1) + x3)), some (pvI j8), some (pvI (y5 + 1))]) (pc' := 93) dX11_weight_90 rfl rfl g12 rfl ?_
            refine go_goto (t := 34) dX11_weight_93 rfl ?_
            exact ih j8 (y5 + 1) _ h hx
          clear h
          have h := k9
          refine go_icmp_ne (t := 87) (pc' := 74) dX11_weight_71 rfl rfl (fun c13 => ?_) (fun c13 => ?_)
          · rw [if_pos (show (iand (ishr (σ 134 ((12 * x1) + x3)) y5) 1) ≠ 1 from c13)] at h
            refine go_iconst (pc' := 88) dX11_weight_87 rfl (r32_c rfl) ?_
            cases h
            exact k9J
          · rw [if_neg (show ¬ ((iand (ishr (σ 134 ((12 * x1) + x3)) y5) 1) ≠ 1) from c13)] at h
            refine go_aload_n (pc' := 75) dX11_weight_74 rfl rfl (Nat.le_of_ble_eq_true rfl) ?_
            refine go_iload_n (pc' := 76) dX11_weight_75 rfl rfl ?_
            refine go_iload_n (pc' := 77) dX11_weight_76 rfl rfl ?_
            refine go_iload (pc' := 79) dX11_weight_77 rfl rfl ?_
            refine go_iload (pc' := 81) dX11_weight_79 rfl rfl ?_
            obtain ⟨v10, k11, h⟩ := bd h
            have k11 := l_M_weightTo (d + 0) n e σ x1 x2 y5 x4 _ k11
            refine go_call (kc := 204) (Mc := mt204) (v := some (pvI v10)) (w' := (true, n, e, σ)) (pc' := 84) (st' := [pvI v10]) [pvR 11 0 129, pvI x1, pvI x2, pvI y5, pvI x4] [] (Or.inl rfl) dX11_weight_81 rfl rm_11_253 mtE204 rfl rfl rfl (Nat.le_of_ble_eq_true rfl) (Or.inr ⟨_, _, 129, rfl, Or.inl rfl⟩) k11 rfl ?_
            refine go_goto (t := 88) dX11_weight_84 rfl ?_
            cases h
            exact k9J

set_option maxRecDepth 10000 in
theorem l_M_weight (d : Nat) (n e : Nat) (σ : Hp) (x1 : Int) (x2 : Int) (x3 : Int) (x4 : Int) (r : Int) (h : f_M_weight σ x1 x2 x3 x4 = some r) : Ev (d + 3) 203 [pvR 11 0 129, pvI x1, pvI x2, pvI x3, pvI x4] (true, n, e, σ) (0, some (pvI r), true, n, e, σ) := by
  unfold f_M_weight at h
  refine Ev.of mtE203 rfl rfl rfl rfl ?_
  show Go none (Ev (d + 2)) mt203 0 [some (pvR 11 0 129), some (pvI x1), some (pvI x2), some (pvI x3), some (pvI x4), none, none, none] [] (true, n, e, σ) (0, some (pvI r), true, n, e, σ)
  refine go_bipush (pc' := 2) dX11_weight_0 rfl (r32_c rfl) (by decide) ?_
  refine go_iload_n (pc' := 3) dX11_weight_2 rfl rfl ?_
  obtain ⟨g1, h⟩ := gd h
  refine go_imul (pc' := 4) dX11_weight_3 rfl g1 ?_
  refine go_iload_n (pc' := 5) dX11_weight_4 rfl rfl ?_
  obtain ⟨g2, h⟩ := gd h
  refine go_iadd (pc' := 6) dX11_weight_5 rfl g2 ?_
  refine go_istore (L' := [some (pvR 11 0 129), some (pvI x1), some (pvI x2), some (pvI x3), some (pvI x4), some (pvI ((12 * x1) + x3)), none, none]) (pc' := 8) dX11_weight_6 rfl (Nat.le_of_ble_eq_true rfl) rfl ?_
  refine go_aload_n (pc' := 9) dX11_weight_8 rfl rfl (Nat.le_of_ble_eq_true rfl) ?_
  refine go_getR (k' := 12) (L0 := 36) (P' := 131) (pc' := 12) dX11_weight_9 rfl rf_11_15 rfl rfl (by omega) ?_
  refine go_iload (pc' := 14) dX11_weight_12 rfl rfl ?_
  obtain ⟨g3, h⟩ := gd h
  refine go_iald (pc' := 15) dX11_weight_14 rfl g3 ?_
  refine go_if_ne (t := 28) (pc' := 18) dX11_weight_15 rfl rfl (fun c22 => ?_) (fun c22 => ?_)
  · rw [if_pos (show (σ 131 ((12 * x1) + x3)) ≠ 0 from c22)] at h
    refine go_iconst (pc' := 29) dX11_weight_28 rfl (r32_c rfl) ?_
    refine go_istore (L' := [some (pvR 11 0 129), some (pvI x1), some (pvI x2), some (pvI x3), some (pvI x4), some (pvI ((12 * x1) + x3)), some (pvI 2), none]) (pc' := 31) dX11_weight_29 rfl (Nat.le_of_ble_eq_true rfl) rfl ?_
    refine go_iconst (pc' := 32) dX11_weight_31 rfl (r32_c rfl) ?_
    refine go_istore (L' := [some (pvR 11 0 129), some (pvI x1), some (pvI x2), some (pvI x3), some (pvI x4), some (pvI ((12 * x1) + x3)), some (pvI 2), some (pvI 0)]) (pc' := 34) dX11_weight_32 rfl (Nat.le_of_ble_eq_true rfl) rfl ?_
    obtain ⟨j18, k19, h⟩ := bd h
    refine l_M_weight_34 d n e σ x1 x2 x3 x4 zFuel 2 0 _ k19 ?_
    refine go_iload (pc' := 98) dX11_weight_96 rfl rfl ?_
    cases h
    exact go_iret dX11_weight_98 rfl rfl
  · rw [if_neg (show ¬ ((σ 131 ((12 * x1) + x3)) ≠ 0) from c22)] at h
    refine go_aload_n (pc' := 19) dX11_weight_18 rfl rfl (Nat.le_of_ble_eq_true rfl) ?_
    refine go_iload_n (pc' := 20) dX11_weight_19 rfl rfl ?_
    refine go_iload_n (pc' := 21) dX11_weight_20 rfl rfl ?_
    refine go_iload_n (pc' := 22) dX11_weight_21 rfl rfl ?_
    refine go_iload (pc' := 24) dX11_weight_22 rfl rfl ?_
    obtain ⟨v20, k21, h⟩ := bd h
    have k21 := l_M_weightTo (d + 0) n e σ x1 x2 x3 x4 _ k21
    refine go_call (kc := 204) (Mc := mt204) (v := some (pvI v20)) (w' := (true, n, e, σ)) (pc' := 27) (st' := [pvI v20]) [pvR 11 0 129, pvI x1, pvI x2, pvI x3, pvI x4] [] (Or.inl rfl) dX11_weight_24 rfl rm_11_253 mtE204 rfl rfl rfl (Nat.le_of_ble_eq_true rfl) (Or.inr ⟨_, _, 129, rfl, Or.inl rfl⟩) k21 rfl ?_
    cases h
    exact go_iret dX11_weight_27 rfl rfl

set_option maxRecDepth 10000 in
theorem l_M_counts (d : Nat) (n e : Nat) (σ : Hp) (x1 : Int) (x2 : Int) (x3 : Int) (x4 : Int) (r : Int) (h : f_M_counts σ x1 x2 x3 x4 = some r) : Ev (d + 4) 202 [pvR 11 0 129, pvI x1, pvI x2, pvI x3, pvI x4] (true, n, e, σ) (0, some (pvI r), true, n, e, σ) := by
  unfold f_M_counts at h
  refine Ev.of mtE202 rfl rfl rfl rfl ?_
  show Go none (Ev (d + 3)) mt202 0 [some (pvR 11 0 129), some (pvI x1), some (pvI x2), some (pvI x3), some (pvI x4), none, none, none, none, none] [] (true, n, e, σ) (0, some (pvI r), true, n, e, σ)
  refine go_aload_n (pc' := 1) dX11_counts_0 rfl rfl (Nat.le_of_ble_eq_true rfl) ?_
  refine go_getZ (pc' := 4) dX11_counts_1 rfl rf_11_199 rfl ?_
  obtain ⟨j1, k2, h⟩ := bd h
  have k2J : Go none (Ev (d + 3)) mt202 23 [some (pvR 11 0 129), some (pvI x1), some (pvI x2), some (pvI x3), some (pvI x4), none, none, none, none, none] [pvI j1] (true, n, e, σ) (0, some (pvI r), true, n, e, σ) := by
    refine go_istore (L' := [some (pvR 11 0 129), some (pvI x1), some (pvI x2), some (pvI x3), some (pvI x4), some (pvI j1), none, none, none, none]) (pc' := 25) dX11_counts_23 rfl (Nat.le_of_ble_eq_true rfl) rfl ?_
    refine go_aload_n (pc' := 26) dX11_counts_25 rfl rfl (Nat.le_of_ble_eq_true rfl) ?_
    refine go_iconst (pc' := 27) dX11_counts_26 rfl (r32_c rfl) ?_
    refine go_aload_n (pc' := 28) dX11_counts_27 rfl rfl (Nat.le_of_ble_eq_true rfl) ?_
    refine go_getR (k' := 12) (L0 := 51) (P' := 150) (pc' := 31) dX11_counts_28 rfl rf_11_72 rfl rfl (by omega) ?_
    refine go_iload_n (pc' := 32) dX11_counts_31 rfl rfl ?_
    obtain ⟨g5, h⟩ := gd h
    refine go_iald (pc' := 33) dX11_counts_32 rfl g5 ?_
    refine go_iload_n (pc' := 34) dX11_counts_33 rfl rfl ?_
    refine go_iload (pc' := 36) dX11_counts_34 rfl rfl ?_
    obtain ⟨v6, k7, h⟩ := bd h
    have k7 := l_M_weight (d + 0) n e σ 0 (σ 150 x1) x2 j1 _ k7
    refine go_call (kc := 203) (Mc := mt203) (v := some (pvI v6)) (w' := (true, n, e, σ)) (pc' := 39) (st' := [pvI v6]) [pvR 11 0 129, pvI 0, pvI (σ 150 x1), pvI x2, pvI j1] [] (Or.inl rfl) dX11_counts_36 rfl rm_11_256 mtE203 rfl rfl rfl (Nat.le_of_ble_eq_true rfl) (Or.inr ⟨_, _, 129, rfl, Or.inl rfl⟩) k7 rfl ?_
    refine go_istore (L' := [some (pvR 11 0 129), some (pvI x1), some (pvI x2), some (pvI x3), some (pvI x4), some (pvI j1), some (pvI v6), none, none, none]) (pc' := 41) dX11_counts_39 rfl (Nat.le_of_ble_eq_true rfl) rfl ?_
    refine go_aload_n (pc' := 42) dX11_counts_41 rfl rfl (Nat.le_of_ble_eq_true rfl) ?_
    refine go_iconst (pc' := 43) dX11_counts_42 rfl (r32_c rfl) ?_
    refine go_aload_n (pc' := 44) dX11_counts_43 rfl rfl (Nat.le_of_ble_eq_true rfl) ?_
    refine go_getR (k' := 12) (L0 := 51) (P' := 151) (pc' := 47) dX11_counts_44 rfl rf_11_75 rfl rfl (by omega) ?_
    refine go_iload_n (pc' := 48) dX11_counts_47 rfl rfl ?_
    obtain ⟨g8, h⟩ := gd h
    refine go_iald (pc' := 49) dX11_counts_48 rfl g8 ?_
    refine go_iload_n (pc' := 50) dX11_counts_49 rfl rfl ?_
    refine go_iload (pc' := 52) dX11_counts_50 rfl rfl ?_
    obtain ⟨v9, k10, h⟩ := bd h
    have k10 := l_M_weight (d + 0) n e σ 1 (σ 151 x1) x3 j1 _ k10
    refine go_call (kc := 203) (Mc := mt203) (v := some (pvI v9)) (w' := (true, n, e, σ)) (pc' := 55) (st' := [pvI v9]) [pvR 11 0 129, pvI 1, pvI (σ 151 x1), pvI x3, pvI j1] [] (Or.inl rfl) dX11_counts_52 rfl rm_11_256 mtE203 rfl rfl rfl (Nat.le_of_ble_eq_true rfl) (Or.inr ⟨_, _, 129, rfl, Or.inl rfl⟩) k10 rfl ?_
    refine go_istore (L' := [some (pvR 11 0 129), some (pvI x1), some (pvI x2), some (pvI x3), some (pvI x4), some (pvI j1), some (pvI v6), some (pvI v9), none, none]) (pc' := 57) dX11_counts_55 rfl (Nat.le_of_ble_eq_true rfl) rfl ?_
    refine go_aload_n (pc' := 58) dX11_counts_57 rfl rfl (Nat.le_of_ble_eq_true rfl) ?_
    refine go_iconst (pc' := 59) dX11_counts_58 rfl (r32_c rfl) ?_
    refine go_aload_n (pc' := 60) dX11_counts_59 rfl rfl (Nat.le_of_ble_eq_true rfl) ?_
    refine go_getR (k' := 12) (L0 := 51) (P' := 152) (pc' := 63) dX11_counts_60 rfl rf_11_78 rfl rfl (by omega) ?_
    refine go_iload_n (pc' := 64) dX11_counts_63 rfl rfl ?_
    obtain ⟨g11, h⟩ := gd h
    refine go_iald (pc' := 65) dX11_counts_64 rfl g11 ?_
    refine go_iload (pc' := 67) dX11_counts_65 rfl rfl ?_
    refine go_iload (pc' := 69) dX11_counts_67 rfl rfl ?_
    obtain ⟨v12, k13, h⟩ := bd h
    have k13 := l_M_weight (d + 0) n e σ 2 (σ 152 x1) x4 j1 _ k13
    refine go_call (kc := 203) (Mc := mt203) (v := some (pvI v12)) (w' := (true, n, e, σ)) (pc' := 72) (st' := [pvI v12]) [pvR 11 0 129, pvI 2, pvI (σ 152 x1), pvI x4, pvI j1] [] (Or.inl rfl) dX11_counts_69 rfl rm_11_256 mtE203 rfl rfl rfl (Nat.le_of_ble_eq_true rfl) (Or.inr ⟨_, _, 129, rfl, Or.inl rfl⟩) k13 rfl ?_
    refine go_istore (L' := [some (pvR 11 0 129), some (pvI x1), some (pvI x2), some (pvI x3), some (pvI x4), some (pvI j1), some (pvI v6), some (pvI v9), some (pvI v12), none]) (pc' := 74) dX11_counts_72 rfl (Nat.le_of_ble_eq_true rfl) rfl ?_
    refine go_aload_n (pc' := 75) dX11_counts_74 rfl rfl (Nat.le_of_ble_eq_true rfl) ?_
    refine go_getZ (pc' := 78) dX11_counts_75 rfl rf_11_225 rfl ?_
    obtain ⟨j14, k15, h⟩ := bd h
    have k15J : Go none (Ev (d + 3)) mt202 128 [some (pvR 11 0 129), some (pvI x1), some (pvI x2), some (pvI x3), some (pvI x4), some (pvI j1), some (pvI v6), some (pvI v9), some (pvI v12), none] [pvI j14] (true, n, e, σ) (0, some (pvI r), true, n, e, σ) := by
      refine go_istore (L' := [some (pvR 11 0 129), some (pvI x1), some (pvI x2), some (pvI x3), some (pvI x4), some (pvI j1), some (pvI v6), some (pvI v9), some (pvI v12), some (pvI j14)]) (pc' := 130) dX11_counts_128 rfl (Nat.le_of_ble_eq_true rfl) rfl ?_
      refine go_iload (pc' := 132) dX11_counts_130 rfl rfl ?_
      refine go_iconst (pc' := 133) dX11_counts_132 rfl (r32_c rfl) ?_
      obtain ⟨j28, k29, h⟩ := bd h
      have k29J : Go none (Ev (d + 3)) mt202 165 [some (pvR 11 0 129), some (pvI x1), some (pvI x2), some (pvI x3), some (pvI x4), some (pvI j1), some (pvI v6), some (pvI v9), some (pvI v12), some (pvI j14)] [pvI j28] (true, n, e, σ) (0, some (pvI r), true, n, e, σ) := by
        cases h
        exact go_iret dX11_counts_165 rfl rfl
      clear h
      have h := k29
      refine go_icmp_eq (t := 153) (pc' := 136) dX11_counts_133 rfl rfl (fun c35 => ?_) (fun c35 => ?_)
      · rw [if_pos (show v6 = 2 from c35)] at h
        refine go_iconst (pc' := 154) dX11_counts_153 rfl (r32_c rfl) ?_
        refine go_goto (t := 165) dX11_counts_154 rfl ?_
        cases h
        exact k29J
      · rw [if_neg (show ¬ (v6 = 2) from c35)] at h
        refine go_iload (pc' := 138) dX11_counts_136 rfl rfl ?_
        refine go_iconst (pc' := 139) dX11_counts_138 rfl (r32_c rfl) ?_
        refine go_icmp_eq (t := 153) (pc' := 142) dX11_counts_139 rfl rfl (fun c34 => ?_) (fun c34 => ?_)
        · rw [if_pos (show v9 = 2 from c34)] at h
          refine go_iconst (pc' := 154) dX11_counts_153 rfl (r32_c rfl) ?_
          refine go_goto (t := 165) dX11_counts_154 rfl ?_
          cases h
          exact k29J
        · rw [if_neg (show ¬ (v9 = 2) from c34)] at h
          refine go_iload (pc' := 144) dX11_counts_142 rfl rfl ?_
          refine go_iconst (pc' := 145) dX11_counts_144 rfl (r32_c rfl) ?_
          refine go_icmp_eq (t := 153) (pc' := 148) dX11_counts_145 rfl rfl (fun c33 => ?_) (fun c33 => ?_)
          · rw [if_pos (show v12 = 2 from c33)] at h
            refine go_iconst (pc' := 154) dX11_counts_153 rfl (r32_c rfl) ?_
            refine go_goto (t := 165) dX11_counts_154 rfl ?_
            cases h
            exact k29J
          · rw [if_neg (show ¬ (v12 = 2) from c33)] at h
            refine go_iload (pc' := 150) dX11_counts_148 rfl rfl ?_
            refine go_if_eq (t := 157) (pc' := 153) dX11_counts_150 rfl rfl (fun c32 => ?_) (fun c32 => ?_)
            · rw [if_pos (show j14 = 0 from c32)] at h
              refine go_iload (pc' := 159) dX11_counts_157 rfl rfl ?_
              refine go_iload (pc' := 161) dX11_counts_159 rfl rfl ?_
              obtain ⟨g30, h⟩ := gd h
              refine go_imul (pc' := 162) dX11_counts_161 rfl g30 ?_
              refine go_iload (pc' := 164) dX11_counts_162 rfl rfl ?_
              obtain ⟨g31, h⟩ := gd h
              refine go_imul (pc' := 165) dX11_counts_164 rfl g31 ?_
              cases h
              exact k29J
            · rw [if_neg (show ¬ (j14 = 0) from c32)] at h
              refine go_iconst (pc' := 154) dX11_counts_153 rfl (r32_c rfl) ?_
              refine go_goto (t := 165) dX11_counts_154 rfl ?_
              cases h
              exact k29J
    clear h
    have h := k15
    refine go_if_eq (t := 127) (pc' := 81) dX11_counts_78 rfl rfl (fun c36 => ?_) (fun c36 => ?_)
    · rw [if_pos (show (σ 129 17) = 0 from c36)] at h
      refine go_iconst (pc' := 128) dX11_counts_127 rfl (r32_c rfl) ?_
      cases h
      exact k15J
    · rw [if_neg (show ¬ ((σ 129 17) = 0) from c36)] at h
      refine go_aload_n (pc' := 82) dX11_counts_81 rfl rfl (Nat.le_of_ble_eq_true rfl) ?_
      refine go_iconst (pc' := 83) dX11_counts_82 rfl (r32_c rfl) ?_
      refine go_aload_n (pc' := 84) dX11_counts_83 rfl rfl (Nat.le_of_ble_eq_true rfl) ?_
      refine go_getR (k' := 12) (L0 := 51) (P' := 150) (pc' := 87) dX11_counts_84 rfl rf_11_72 rfl rfl (by omega) ?_
      refine go_iload_n (pc' := 88) dX11_counts_87 rfl rfl ?_
      obtain ⟨g16, h⟩ := gd h
      refine go_iald (pc' := 89) dX11_counts_88 rfl g16 ?_
      obtain ⟨v17, k18, h⟩ := bd h
      have k18 := l_M_seen (d + 0) n e σ 0 (σ 150 x1) _ k18
      refine go_call (kc := 186) (Mc := mt186) (v := some (pvI v17)) (w' := (true, n, e, σ)) (pc' := 92) (st' := [pvI v17]) [pvR 11 0 129, pvI 0, pvI (σ 150 x1)] [] (Or.inl rfl) dX11_counts_89 rfl rm_11_208 mtE186 rfl rfl rfl (Nat.le_of_ble_eq_true rfl) (Or.inr ⟨_, _, 129, rfl, Or.inl rfl⟩) k18 rfl ?_
      refine go_if_eq (t := 123) (pc' := 95) dX11_counts_92 rfl rfl (fun c27 => ?_) (fun c27 => ?_)
      · rw [if_pos (show v17 = 0 from c27)] at h
        refine go_iconst (pc' := 124) dX11_counts_123 rfl (r32_c rfl) ?_
        refine go_goto (t := 128) dX11_counts_124 rfl ?_
        cases h
        exact k15J
      · rw [if_neg (show ¬ (v17 = 0) from c27)] at h
        refine go_aload_n (pc' := 96) dX11_counts_95 rfl rfl (Nat.le_of_ble_eq_true rfl) ?_
        refine go_iconst (pc' := 97) dX11_counts_96 rfl (r32_c rfl) ?_
        refine go_aload_n (pc' := 98) dX11_counts_97 rfl rfl (Nat.le_of_ble_eq_true rfl) ?_
        refine go_getR (k' := 12) (L0 := 51) (P' := 151) (pc' := 101) dX11_counts_98 rfl rf_11_75 rfl rfl (by omega) ?_
        refine go_iload_n (pc' := 102) dX11_counts_101 rfl rfl ?_
        obtain ⟨g19, h⟩ := gd h
        refine go_iald (pc' := 103) dX11_counts_102 rfl g19 ?_
        obtain ⟨v20, k21, h⟩ := bd h
        have k21 := l_M_seen (d + 0) n e σ 1 (σ 151 x1) _ k21
        refine go_call (kc := 186) (Mc := mt186) (v := some (pvI v20)) (w' := (true, n, e, σ)) (pc' := 106) (st' := [pvI v20]) [pvR 11 0 129, pvI 1, pvI (σ 151 x1)] [] (Or.inl rfl) dX11_counts_103 rfl rm_11_208 mtE186 rfl rfl rfl (Nat.le_of_ble_eq_true rfl) (Or.inr ⟨_, _, 129, rfl, Or.inl rfl⟩) k21 rfl ?_
        refine go_if_eq (t := 123) (pc' := 109) dX11_counts_106 rfl rfl (fun c26 => ?_) (fun c26 => ?_)
        · rw [if_pos (show v20 = 0 from c26)] at h
          refine go_iconst (pc' := 124) dX11_counts_123 rfl (r32_c rfl) ?_
          refine go_goto (t := 128) dX11_counts_124 rfl ?_
          cases h
          exact k15J
        · rw [if_neg (show ¬ (v20 = 0) from c26)] at h
          refine go_aload_n (pc' := 110) dX11_counts_109 rfl rfl (Nat.le_of_ble_eq_true rfl) ?_
          refine go_iconst (pc' := 111) dX11_counts_110 rfl (r32_c rfl) ?_
          refine go_aload_n (pc' := 112) dX11_counts_111 rfl rfl (Nat.le_of_ble_eq_true rfl) ?_
          refine go_getR (k' := 12) (L0 := 51) (P' := 152) (pc' := 115) dX11_counts_112 rfl rf_11_78 rfl rfl (by omega) ?_
          refine go_iload_n (pc' := 116) dX11_counts_115 rfl rfl ?_
          obtain ⟨g22, h⟩ := gd h
          refine go_iald (pc' := 117) dX11_counts_116 rfl g22 ?_
          obtain ⟨v23, k24, h⟩ := bd h
          have k24 := l_M_seen (d + 0) n e σ 2 (σ 152 x1) _ k24
          refine go_call (kc := 186) (Mc := mt186) (v := some (pvI v23)) (w' := (true, n, e, σ)) (pc' := 120) (st' := [pvI v23]) [pvR 11 0 129, pvI 2, pvI (σ 152 x1)] [] (Or.inl rfl) dX11_counts_117 rfl rm_11_208 mtE186 rfl rfl rfl (Nat.le_of_ble_eq_true rfl) (Or.inr ⟨_, _, 129, rfl, Or.inl rfl⟩) k24 rfl ?_
          refine go_if_ne (t := 127) (pc' := 123) dX11_counts_120 rfl rfl (fun c25 => ?_) (fun c25 => ?_)
          · rw [if_pos (show v23 ≠ 0 from c25)] at h
            refine go_iconst (pc' := 128) dX11_counts_127 rfl (r32_c rfl) ?_
            cases h
            exact k15J
          · rw [if_neg (show ¬ (v23 ≠ 0) from c25)] at h
            refine go_iconst (pc' := 124) dX11_counts_123 rfl (r32_c rfl) ?_
            refine go_goto (t := 128) dX11_counts_124 rfl ?_
            cases h
            exact k15J
  clear h
  have h := k2
  refine go_if_eq (t := 12) (pc' := 7) dX11_counts_4 rfl rfl (fun c37 => ?_) (fun c37 => ?_)
  · rw [if_pos (show (σ 129 16) = 0 from c37)] at h
    refine go_aload_n (pc' := 13) dX11_counts_12 rfl rfl (Nat.le_of_ble_eq_true rfl) ?_
    refine go_getR (k' := 12) (L0 := 12) (P' := 145) (pc' := 16) dX11_counts_13 rfl rf_11_57 rfl rfl (by omega) ?_
    refine go_aload_n (pc' := 17) dX11_counts_16 rfl rfl (Nat.le_of_ble_eq_true rfl) ?_
    refine go_getR (k' := 12) (L0 := 51) (P' := 150) (pc' := 20) dX11_counts_17 rfl rf_11_72 rfl rfl (by omega) ?_
    refine go_iload_n (pc' := 21) dX11_counts_20 rfl rfl ?_
    obtain ⟨g3, h⟩ := gd h
    refine go_iald (pc' := 22) dX11_counts_21 rfl g3 ?_
    obtain ⟨g4, h⟩ := gd h
    refine go_iald (pc' := 23) dX11_counts_22 rfl g4 ?_
    cases h
    exact k2J
  · rw [if_neg (show ¬ ((σ 129 16) = 0) from c37)] at h
    refine go_bipush (pc' := 9) dX11_counts_7 rfl (r32_c rfl) (by decide) ?_
    refine go_goto (t := 23) dX11_counts_9 rfl ?_
    cases h
    exact k2J

set_option maxRecDepth 10000 in
theorem l_M_remove_12 (d : Nat) (n : Nat) (e : Nat) (x1 : Int) {out : Out} : ∀ (F : Nat) (y2 : Int) (σ3 : Hp) (j9 : Int × Hp), f_M_remove_12 F y2 σ3 = some j9 → Go none (Ev (d + 0)) mt205 40 [some (pvR 11 0 129), some (pvI x1), some (pvI j9.1)] [] (true, n, e, j9.2) out → Go none (Ev (d + 0)) mt205 12 [some (pvR 11 0 129), some (pvI x1), some (pvI y2)] [] (true, n, e, σ3) out := by
  intro F
  induction F with
  | zero =>
    intro _ _ _ h
    intro _
    rw [f_M_remove_12] at h
    cases h
  | succ F ih =>
    intro y2 σ3 j9 h hx
    rw [f_M_remove_12] at h
    refine go_iload_n (pc' := 13) dX11_remove_12 rfl rfl ?_
    refine go_aload_n (pc' := 14) dX11_remove_13 rfl rfl (Nat.le_of_ble_eq_true rfl) ?_
    refine go_getI (pc' := 17) dX11_remove_14 rfl rf_11_163 rfl ?_
    refine go_icmp_ge (t := 40) (pc' := 20) dX11_remove_17 rfl rfl (fun c8 => ?_) (fun c8 => ?_)
    · rw [if_pos (show (σ3 129 40) ≤ y2 from c8)] at h
      cases h
      exact hx
    · rw [if_neg (show ¬ ((σ3 129 40) ≤ y2) from c8)] at h
      refine go_aload_n (pc' := 21) dX11_remove_20 rfl rfl (Nat.le_of_ble_eq_true rfl) ?_
      refine go_getR (k' := 12) (L0 := 21) (P' := 162) (pc' := 24) dX11_remove_21 rfl rf_11_116 rfl rfl (by omega) ?_
      refine go_iload_n (pc' := 25) dX11_remove_24 rfl rfl ?_
      refine go_aload_n (pc' := 26) dX11_remove_25 rfl rfl (Nat.le_of_ble_eq_true rfl) ?_
      refine go_getR (k' := 12) (L0 := 21) (P' := 162) (pc' := 29) dX11_remove_26 rfl rf_11_116 rfl rfl (by omega) ?_
      refine go_iload_n (pc' := 30) dX11_remove_29 rfl rfl ?_
      refine go_iconst (pc' := 31) dX11_remove_30 rfl (r32_c rfl) ?_
      obtain ⟨g4, h⟩ := gd h
      refine go_iadd (pc' := 32) dX11_remove_31 rfl g4 ?_
      obtain ⟨g5, h⟩ := gd h
      refine go_iald (pc' := 33) dX11_remove_32 rfl g5 ?_
      obtain ⟨g6, h⟩ := gd h
      refine go_iast (pc' := 34) dX11_remove_33 rfl g6 ?_
      obtain ⟨g7, h⟩ := gd h
      refine go_iinc (L' := [some (pvR 11 0 129), some (pvI x1), some (pvI (y2 + 1))]) (pc' := 37) dX11_remove_34 rfl rfl g7 rfl ?_
      refine go_goto (t := 12) dX11_remove_37 rfl ?_
      exact ih (y2 + 1) (hset σ3 162 y2 (σ3 162 (y2 + 1))) _ h hx

set_option maxRecDepth 10000 in
theorem l_M_remove (d : Nat) (n e : Nat) (σ : Hp) (x1 : Int) (r : Hp) (h : f_M_remove σ x1 = some r) : Ev (d + 1) 205 [pvR 11 0 129, pvI x1] (true, n, e, σ) (0, none, true, n, e, r) := by
  unfold f_M_remove at h
  refine Ev.of mtE205 rfl rfl rfl rfl ?_
  show Go none (Ev (d + 0)) mt205 0 [some (pvR 11 0 129), some (pvI x1), none] [] (true, n, e, σ) (0, none, true, n, e, r)
  refine go_aload_n (pc' := 1) dX11_remove_0 rfl rfl (Nat.le_of_ble_eq_true rfl) ?_
  refine go_dup (pc' := 2) dX11_remove_1 rfl (Nat.ne_of_beq_eq_false rfl) ?_
  refine go_getI (pc' := 5) dX11_remove_2 rfl rf_11_163 rfl ?_
  refine go_iconst (pc' := 6) dX11_remove_5 rfl (r32_c rfl) ?_
  obtain ⟨g1, h⟩ := gd h
  refine go_isub (pc' := 7) dX11_remove_6 rfl g1 ?_
  refine go_putI (pc' := 10) dX11_remove_7 rfl rf_11_163 rfl ?_
  refine go_iload_n (pc' := 11) dX11_remove_10 rfl rfl ?_
  refine go_istore_n (L' := [some (pvR 11 0 129), some (pvI x1), some (pvI x1)]) (pc' := 12) dX11_remove_11 rfl (Nat.le_of_ble_eq_true rfl) rfl ?_
  obtain ⟨j10, k11, h⟩ := bd h
  refine l_M_remove_12 d n e x1 zFuel x1 (hset σ 129 40 ((σ 129 40) - 1)) _ k11 ?_
  cases h
  exact go_vret dX11_remove_40 rfl rfl

set_option maxRecDepth 10000 in
theorem l_M_drop_17 (d : Nat) (n : Nat) (e : Nat) (x1 : Int) {out : Out} : ∀ (F : Nat) (y3 : Int) (σ4 : Hp) (j41 : Int × Hp), f_M_drop_17 x1 F y3 σ4 = some j41 → Go none (Ev (d + 4)) mt200 154 [some (pvR 11 0 129), some (pvI x1), some (pvI j41.1), none, none, none, none] [] (true, n, e, j41.2) out → Go none (Ev (d + 4)) mt200 17 [some (pvR 11 0 129), some (pvI x1), some (pvI y3), none, none, none, none] [] (true, n, e, σ4) out := by
  intro F
  induction F with
  | zero =>
    intro _ _ _ h
    intro _
    rw [f_M_drop_17] at h
    cases h
  | succ F ih =>
    intro y3 σ4 j41 h hx
    rw [f_M_drop_17] at h
    refine go_iload_n (pc' := 18) dX11_drop_17 rfl rfl ?_
    refine go_if_lt (t := 154) (pc' := 21) dX11_drop_18 rfl rfl (fun c40 => ?_) (fun c40 => ?_)
    · rw [if_pos (show y3 < 0 from c40)] at h
      cases h
      exact hx
    · rw [if_neg (show ¬ (y3 < 0) from c40)] at h
      refine go_aload_n (pc' := 22) dX11_drop_21 rfl rfl (Nat.le_of_ble_eq_true rfl) ?_
      refine go_getR (k' := 12) (L0 := 21) (P' := 162) (pc' := 25) dX11_drop_22 rfl rf_11_116 rfl rfl (by omega) ?_
      refine go_iload_n (pc' := 26) dX11_drop_25 rfl rfl ?_
      obtain ⟨g5, h⟩ := gd h
      refine go_iald (pc' := 27) dX11_drop_26 rfl g5 ?_
      refine go_sipush (pc' := 30) dX11_drop_27 rfl (r32_c rfl) (by decide) ?_
      obtain ⟨g6, h⟩ := gd h
      refine go_idiv (pc' := 31) dX11_drop_30 rfl g6 ?_
      refine go_istore_n (L' := [some (pvR 11 0 129), some (pvI x1), some (pvI y3), some (pvI (Int.tdiv (σ4 162 y3) 576)), none, none, none]) (pc' := 32) dX11_drop_31 rfl (Nat.le_of_ble_eq_true rfl) rfl ?_
      refine go_aload_n (pc' := 33) dX11_drop_32 rfl rfl (Nat.le_of_ble_eq_true rfl) ?_
      refine go_getR (k' := 12) (L0 := 21) (P' := 162) (pc' := 36) dX11_drop_33 rfl rf_11_116 rfl rfl (by omega) ?_
      refine go_iload_n (pc' := 37) dX11_drop_36 rfl rfl ?_
      obtain ⟨g7, h⟩ := gd h
      refine go_iald (pc' := 38) dX11_drop_37 rfl g7 ?_
      refine go_bipush (pc' := 40) dX11_drop_38 rfl (r32_c rfl) (by decide) ?_
      obtain ⟨g8, h⟩ := gd h
      refine go_idiv (pc' := 41) dX11_drop_40 rfl g8 ?_
      refine go_bipush (pc' := 43) dX11_drop_41 rfl (r32_c rfl) (by decide) ?_
      obtain ⟨g9, h⟩ := gd h
      refine go_irem (pc' := 44) dX11_drop_43 rfl g9 ?_
      refine go_istore (L' := [some (pvR 11 0 129), some (pvI x1), some (pvI y3), some (pvI (Int.tdiv (σ4 162 y3) 576)), some (pvI (Int.tmod (Int.tdiv (σ4 162 y3) 48) 12)), none, none]) (pc' := 46) dX11_drop_44 rfl (Nat.le_of_ble_eq_true rfl) rfl ?_
      refine go_aload_n (pc' := 47) dX11_drop_46 rfl rfl (Nat.le_of_ble_eq_true rfl) ?_
      refine go_getR (k' := 12) (L0 := 21) (P' := 162) (pc' := 50) dX11_drop_47 rfl rf_11_116 rfl rfl (by omega) ?_
      refine go_iload_n (pc' := 51) dX11_drop_50 rfl rfl ?_
      obtain ⟨g10, h⟩ := gd h
      refine go_iald (pc' := 52) dX11_drop_51 rfl g10 ?_
      refine go_iconst (pc' := 53) dX11_drop_52 rfl (r32_c rfl) ?_
      obtain ⟨g11, h⟩ := gd h
      refine go_idiv (pc' := 54) dX11_drop_53 rfl g11 ?_
      refine go_bipush (pc' := 56) dX11_drop_54 rfl (r32_c rfl) (by decide) ?_
      obtain ⟨g12, h⟩ := gd h
      refine go_irem (pc' := 57) dX11_drop_56 rfl g12 ?_
      refine go_istore (L' := [some (pvR 11 0 129), some (pvI x1), some (pvI y3), some (pvI (Int.tdiv (σ4 162 y3) 576)), some (pvI (Int.tmod (Int.tdiv (σ4 162 y3) 48) 12)), some (pvI (Int.tmod (Int.tdiv (σ4 162 y3) 4) 12)), none]) (pc' := 59) dX11_drop_57 rfl (Nat.le_of_ble_eq_true rfl) rfl ?_
      refine go_aload_n (pc' := 60) dX11_drop_59 rfl rfl (Nat.le_of_ble_eq_true rfl) ?_
      refine go_getR (k' := 12) (L0 := 36) (P' := 131) (pc' := 63) dX11_drop_60 rfl rf_11_15 rfl rfl (by omega) ?_
      refine go_iload_n (pc' := 64) dX11_drop_63 rfl rfl ?_
      obtain ⟨g13, h⟩ := gd h
      refine go_iald (pc' := 65) dX11_drop_64 rfl g13 ?_
      refine go_iconst (pc' := 66) dX11_drop_65 rfl (r32_c rfl) ?_
      obtain ⟨j14, k15, h⟩ := bd h
      have k15J : Go none (Ev (d + 4)) mt200 102 [some (pvR 11 0 129), some (pvI x1), some (pvI y3), some (pvI (Int.tdiv (σ4 162 y3) 576)), some (pvI (Int.tmod (Int.tdiv (σ4 162 y3) 48) 12)), some (pvI (Int.tmod (Int.tdiv (σ4 162 y3) 4) 12)), none] [pvI j14] (true, n, e, σ4) out := by
        refine go_istore (L' := [some (pvR 11 0 129), some (pvI x1), some (pvI y3), some (pvI (Int.tdiv (σ4 162 y3) 576)), some (pvI (Int.tmod (Int.tdiv (σ4 162 y3) 48) 12)), some (pvI (Int.tmod (Int.tdiv (σ4 162 y3) 4) 12)), some (pvI j14)]) (pc' := 104) dX11_drop_102 rfl (Nat.le_of_ble_eq_true rfl) rfl ?_
        refine go_iload (pc' := 106) dX11_drop_104 rfl rfl ?_
        obtain ⟨j22, k23, h⟩ := bd h
        have k23J : Go none (Ev (d + 4)) mt200 148 [some (pvR 11 0 129), some (pvI x1), some (pvI y3), some (pvI (Int.tdiv (σ4 162 y3) 576)), some (pvI (Int.tmod (Int.tdiv (σ4 162 y3) 48) 12)), some (pvI (Int.tmod (Int.tdiv (σ4 162 y3) 4) 12)), some (pvI j14)] [] (true, n, e, j22) out := by
          obtain ⟨g37, h⟩ := gd h
          refine go_iinc (L' := [some (pvR 11 0 129), some (pvI x1), some (pvI (y3 + (-1))), some (pvI (Int.tdiv (σ4 162 y3) 576)), some (pvI (Int.tmod (Int.tdiv (σ4 162 y3) 48) 12)), some (pvI (Int.tmod (Int.tdiv (σ4 162 y3) 4) 12)), some (pvI j14)]) (pc' := 151) dX11_drop_148 rfl rfl g37 rfl ?_
          refine go_goto (t := 17) dX11_drop_151 rfl ?_
          exact go_sub (ih (y3 + (-1)) j22 _ h hx) ⟨Or.inr rfl, Or.inr rfl, Or.inr rfl, Or.inl rfl, Or.inl rfl, Or.inl rfl, Or.inl rfl, trivial⟩
        clear h
        have h := k23
        refine go_if_ne (t := 143) (pc' := 109) dX11_drop_106 rfl rfl (fun c38 => ?_) (fun c38 => ?_)
        · rw [if_pos (show j14 ≠ 0 from c38)] at h
          refine go_aload_n (pc' := 144) dX11_drop_143 rfl rfl (Nat.le_of_ble_eq_true rfl) ?_
          refine go_iload_n (pc' := 145) dX11_drop_144 rfl rfl ?_
          obtain ⟨v24, k25, h⟩ := bd h
          have k25 := l_M_remove (d + 3) n e σ4 y3 _ k25
          refine go_call (kc := 205) (Mc := mt205) (v := none) (w' := (true, n, e, v24)) (pc' := 148) (st' := []) [pvR 11 0 129, pvI y3] [] (Or.inl rfl) dX11_drop_145 rfl rm_11_318 mtE205 rfl rfl rfl (Nat.le_of_ble_eq_true rfl) (Or.inr ⟨_, _, 129, rfl, Or.inl rfl⟩) k25 rfl ?_
          cases h
          exact k23J
        · rw [if_neg (show ¬ (j14 ≠ 0) from c38)] at h
          refine go_aload_n (pc' := 110) dX11_drop_109 rfl rfl (Nat.le_of_ble_eq_true rfl) ?_
          refine go_aload_n (pc' := 111) dX11_drop_110 rfl rfl (Nat.le_of_ble_eq_true rfl) ?_
          refine go_getR (k' := 12) (L0 := 21) (P' := 162) (pc' := 114) dX11_drop_111 rfl rf_11_116 rfl rfl (by omega) ?_
          refine go_iload_n (pc' := 115) dX11_drop_114 rfl rfl ?_
          obtain ⟨g26, h⟩ := gd h
          refine go_iald (pc' := 116) dX11_drop_115 rfl g26 ?_
          refine go_iconst (pc' := 117) dX11_drop_116 rfl (r32_c rfl) ?_
          obtain ⟨g27, h⟩ := gd h
          refine go_irem (pc' := 118) dX11_drop_117 rfl g27 ?_
          refine go_aload_n (pc' := 119) dX11_drop_118 rfl rfl (Nat.le_of_ble_eq_true rfl) ?_
          refine go_getR (k' := 12) (L0 := 51) (P' := 153) (pc' := 122) dX11_drop_119 rfl rf_11_81 rfl rfl (by omega) ?_
          refine go_iload_n (pc' := 123) dX11_drop_122 rfl rfl ?_
          obtain ⟨g28, h⟩ := gd h
          refine go_iald (pc' := 124) dX11_drop_123 rfl g28 ?_
          obtain ⟨v29, k30, h⟩ := bd h
          have k30 := l_M_needs (d + 3) n e σ4 (Int.tmod (σ4 162 y3) 4) (σ4 153 x1) _ k30
          refine go_call (kc := 201) (Mc := mt201) (v := some (pvI v29)) (w' := (true, n, e, σ4)) (pc' := 127) (st' := [pvI v29]) [pvR 11 0 129, pvI (Int.tmod (σ4 162 y3) 4), pvI (σ4 153 x1)] [] (Or.inl rfl) dX11_drop_124 rfl rm_11_321 mtE201 rfl rfl rfl (Nat.le_of_ble_eq_true rfl) (Or.inr ⟨_, _, 129, rfl, Or.inl rfl⟩) k30 rfl ?_
          refine go_if_eq (t := 148) (pc' := 130) dX11_drop_127 rfl rfl (fun c36 => ?_) (fun c36 => ?_)
          · rw [if_pos (show v29 = 0 from c36)] at h
            cases h
            exact k23J
          · rw [if_neg (show ¬ (v29 = 0) from c36)] at h
            refine go_aload_n (pc' := 131) dX11_drop_130 rfl rfl (Nat.le_of_ble_eq_true rfl) ?_
            refine go_iload_n (pc' := 132) dX11_drop_131 rfl rfl ?_
            refine go_iload_n (pc' := 133) dX11_drop_132 rfl rfl ?_
            refine go_iload (pc' := 135) dX11_drop_133 rfl rfl ?_
            refine go_iload (pc' := 137) dX11_drop_135 rfl rfl ?_
            obtain ⟨v31, k32, h⟩ := bd h
            have k32 := l_M_counts (d + 0) n e σ4 x1 (Int.tdiv (σ4 162 y3) 576) (Int.tmod (Int.tdiv (σ4 162 y3) 48) 12) (Int.tmod (Int.tdiv (σ4 162 y3) 4) 12) _ k32
            refine go_call (kc := 202) (Mc := mt202) (v := some (pvI v31)) (w' := (true, n, e, σ4)) (pc' := 140) (st' := [pvI v31]) [pvR 11 0 129, pvI x1, pvI (Int.tdiv (σ4 162 y3) 576), pvI (Int.tmod (Int.tdiv (σ4 162 y3) 48) 12), pvI (Int.tmod (Int.tdiv (σ4 162 y3) 4) 12)] [] (Or.inl rfl) dX11_drop_137 rfl rm_11_259 mtE202 rfl rfl rfl (Nat.le_of_ble_eq_true rfl) (Or.inr ⟨_, _, 129, rfl, Or.inl rfl⟩) k32 rfl ?_
            refine go_if_eq (t := 148) (pc' := 143) dX11_drop_140 rfl rfl (fun c35 => ?_) (fun c35 => ?_)
            · rw [if_pos (show v31 = 0 from c35)] at h
              cases h
              exact k23J
            · rw [if_neg (show ¬ (v31 = 0) from c35)] at h
              refine go_aload_n (pc' := 144) dX11_drop_143 rfl rfl (Nat.le_of_ble_eq_true rfl) ?_
              refine go_iload_n (pc' := 145) dX11_drop_144 rfl rfl ?_
              obtain ⟨v33, k34, h⟩ := bd h
              have k34 := l_M_remove (d + 3) n e σ4 y3 _ k34
              refine go_call (kc := 205) (Mc := mt205) (v := none) (w' := (true, n, e, v33)) (pc' := 148) (st' := []) [pvR 11 0 129, pvI y3] [] (Or.inl rfl) dX11_drop_145 rfl rm_11_318 mtE205 rfl rfl rfl (Nat.le_of_ble_eq_true rfl) (Or.inr ⟨_, _, 129, rfl, Or.inl rfl⟩) k34 rfl ?_
              cases h
              exact k23J
      clear h
      have h := k15
      refine go_icmp_eq (t := 97) (pc' := 69) dX11_drop_66 rfl rfl (fun c39 => ?_) (fun c39 => ?_)
      · rw [if_pos (show (σ4 131 (Int.tdiv (σ4 162 y3) 576)) = 2 from c39)] at h
        refine go_iconst (pc' := 98) dX11_drop_97 rfl (r32_c rfl) ?_
        refine go_goto (t := 102) dX11_drop_98 rfl ?_
        cases h
        exact k15J
      · rw [if_neg (show ¬ ((σ4 131 (Int.tdiv (σ4 162 y3) 576)) = 2) from c39)] at h
        refine go_aload_n (pc' := 70) dX11_drop_69 rfl rfl (Nat.le_of_ble_eq_true rfl) ?_
        refine go_getR (k' := 12) (L0 := 36) (P' := 131) (pc' := 73) dX11_drop_70 rfl rf_11_15 rfl rfl (by omega) ?_
        refine go_bipush (pc' := 75) dX11_drop_73 rfl (r32_c rfl) (by decide) ?_
        refine go_iload (pc' := 77) dX11_drop_75 rfl rfl ?_
        obtain ⟨g16, h⟩ := gd h
        refine go_iadd (pc' := 78) dX11_drop_77 rfl g16 ?_
        obtain ⟨g17, h⟩ := gd h
        refine go_iald (pc' := 79) dX11_drop_78 rfl g17 ?_
        refine go_iconst (pc' := 80) dX11_drop_79 rfl (r32_c rfl) ?_
        refine go_icmp_eq (t := 97) (pc' := 83) dX11_drop_80 rfl rfl (fun c21 => ?_) (fun c21 => ?_)
        · rw [if_pos (show (σ4 131 (12 + (Int.tmod (Int.tdiv (σ4 162 y3) 48) 12))) = 2 from c21)] at h
          refine go_iconst (pc' := 98) dX11_drop_97 rfl (r32_c rfl) ?_
          refine go_goto (t := 102) dX11_drop_98 rfl ?_
          cases h
          exact k15J
        · rw [if_neg (show ¬ ((σ4 131 (12 + (Int.tmod (Int.tdiv (σ4 162 y3) 48) 12))) = 2) from c21)] at h
          refine go_aload_n (pc' := 84) dX11_drop_83 rfl rfl (Nat.le_of_ble_eq_true rfl) ?_
          refine go_getR (k' := 12) (L0 := 36) (P' := 131) (pc' := 87) dX11_drop_84 rfl rf_11_15 rfl rfl (by omega) ?_
          refine go_bipush (pc' := 89) dX11_drop_87 rfl (r32_c rfl) (by decide) ?_
          refine go_iload (pc' := 91) dX11_drop_89 rfl rfl ?_
          obtain ⟨g18, h⟩ := gd h
          refine go_iadd (pc' := 92) dX11_drop_91 rfl g18 ?_
          obtain ⟨g19, h⟩ := gd h
          refine go_iald (pc' := 93) dX11_drop_92 rfl g19 ?_
          refine go_iconst (pc' := 94) dX11_drop_93 rfl (r32_c rfl) ?_
          refine go_icmp_ne (t := 101) (pc' := 97) dX11_drop_94 rfl rfl (fun c20 => ?_) (fun c20 => ?_)
          · rw [if_pos (show (σ4 131 (24 + (Int.tmod (Int.tdiv (σ4 162 y3) 4) 12))) ≠ 2 from c20)] at h
            refine go_iconst (pc' := 102) dX11_drop_101 rfl (r32_c rfl) ?_
            cases h
            exact k15J
          · rw [if_neg (show ¬ ((σ4 131 (24 + (Int.tmod (Int.tdiv (σ4 162 y3) 4) 12))) ≠ 2) from c20)] at h
            refine go_iconst (pc' := 98) dX11_drop_97 rfl (r32_c rfl) ?_
            refine go_goto (t := 102) dX11_drop_98 rfl ?_
            cases h
            exact k15J

set_option maxRecDepth 10000 in
theorem l_M_drop (d : Nat) (n e : Nat) (σ : Hp) (x1 : Int) (r : Hp) (h : f_M_drop σ x1 = some r) : Ev (d + 5) 200 [pvR 11 0 129, pvI x1] (true, n, e, σ) (0, none, true, n, e, r) := by
  unfold f_M_drop at h
  refine Ev.of mtE200 rfl rfl rfl rfl ?_
  show Go none (Ev (d + 4)) mt200 0 [some (pvR 11 0 129), some (pvI x1), none, none, none, none, none] [] (true, n, e, σ) (0, none, true, n, e, r)
  refine go_aload_n (pc' := 1) dX11_drop_0 rfl rfl (Nat.le_of_ble_eq_true rfl) ?_
  refine go_dup (pc' := 2) dX11_drop_1 rfl (Nat.ne_of_beq_eq_false rfl) ?_
  refine go_getI (pc' := 5) dX11_drop_2 rfl rf_11_113 rfl ?_
  refine go_iconst (pc' := 6) dX11_drop_5 rfl (r32_c rfl) ?_
  obtain ⟨g1, h⟩ := gd h
  refine go_iadd (pc' := 7) dX11_drop_6 rfl g1 ?_
  refine go_putI (pc' := 10) dX11_drop_7 rfl rf_11_113 rfl ?_
  refine go_aload_n (pc' := 11) dX11_drop_10 rfl rfl (Nat.le_of_ble_eq_true rfl) ?_
  refine go_getI (pc' := 14) dX11_drop_11 rfl rf_11_163 rfl ?_
  refine go_iconst (pc' := 15) dX11_drop_14 rfl (r32_c rfl) ?_
  obtain ⟨g2, h⟩ := gd h
  refine go_isub (pc' := 16) dX11_drop_15 rfl g2 ?_
  refine go_istore_n (L' := [some (pvR 11 0 129), some (pvI x1), some (pvI (((hset σ 129 38 ((σ 129 38) + 1)) 129 40) - 1)), none, none, none, none]) (pc' := 17) dX11_drop_16 rfl (Nat.le_of_ble_eq_true rfl) rfl ?_
  obtain ⟨j42, k43, h⟩ := bd h
  refine l_M_drop_17 d n e x1 zFuel (((hset σ 129 38 ((σ 129 38) + 1)) 129 40) - 1) (hset σ 129 38 ((σ 129 38) + 1)) _ k43 ?_
  cases h
  exact go_vret dX11_drop_154 rfl rfl

