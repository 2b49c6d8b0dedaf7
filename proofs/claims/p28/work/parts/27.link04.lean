/-! ===== links: each function is what its bytecode does ===== -/
set_option maxRecDepth 10000 in
theorem l_R_joined (d : Nat) (n e : Nat) (σ : Hp) (x1 : Int) (x2 : Int) (x3 : Int) (r : Int) (h : f_R_joined σ x1 x2 x3 = some r) : Ev (d + 3) 111 [pvI x1, pvL x2, pvL x3] (true, n, e, σ) (0, some (pvL r), true, n, e, σ) := by
  unfold f_R_joined at h
  refine Ev.of mtE111 rfl rfl rfl rfl ?_
  show Go none (Ev (d + 2)) mt111 0 [some (pvI x1), some (pvL x2), none, some (pvL x3), none] [] (true, n, e, σ) (0, some (pvL r), true, n, e, σ)
  refine go_iload_n (pc' := 1) dX6_joined_0 rfl rfl ?_
  refine go_iconst (pc' := 2) dX6_joined_1 rfl (r32_c rfl) ?_
  refine go_icmp_eq (t := 10) (pc' := 5) dX6_joined_2 rfl rfl (fun c19 => ?_) (fun c19 => ?_)
  · rw [if_pos (show x1 = 3 from c19)] at h
    refine go_lload_n (pc' := 11) dX6_joined_10 rfl rfl ?_
    refine go_lload_n (pc' := 12) dX6_joined_11 rfl rfl ?_
    refine go_iload_n (pc' := 13) dX6_joined_12 rfl rfl ?_
    refine go_iconst (pc' := 14) dX6_joined_13 rfl (r32_c rfl) ?_
    obtain ⟨j1, k2, h⟩ := bd h
    have k2J : Go none (Ev (d + 2)) mt111 22 [some (pvI x1), some (pvL x2), none, some (pvL x3), none] [pvI j1, pvL x3, pvL x2] (true, n, e, σ) (0, some (pvL r), true, n, e, σ) := by
      obtain ⟨v3, k4, h⟩ := bd h
      have k4 := l_R_plus (d + 0) n e σ x2 x3 j1 _ k4
      refine go_call (kc := 108) (Mc := mt108) (v := some (pvL v3)) (w' := (true, n, e, σ)) (pc' := 25) (st' := [pvL v3]) [pvL x2, pvL x3, pvI j1] [] (Or.inr (Or.inl rfl)) dX6_joined_22 rfl rm_6_142 mtE108 rfl rfl rfl (Nat.le_of_ble_eq_true rfl) (Or.inl (by decide)) k4 rfl ?_
      cases h
      exact go_lret dX6_joined_25 rfl rfl
    clear h
    have h := k2
    refine go_icmp_ne (t := 21) (pc' := 17) dX6_joined_14 rfl rfl (fun c5 => ?_) (fun c5 => ?_)
    · rw [if_pos (show x1 ≠ 3 from c5)] at h
      refine go_iconst (pc' := 22) dX6_joined_21 rfl (r32_c rfl) ?_
      cases h
      exact k2J
    · rw [if_neg (show ¬ (x1 ≠ 3) from c5)] at h
      refine go_iconst (pc' := 18) dX6_joined_17 rfl (r32_c rfl) ?_
      refine go_goto (t := 22) dX6_joined_18 rfl ?_
      cases h
      exact k2J
  · rw [if_neg (show ¬ (x1 = 3) from c19)] at h
    refine go_iload_n (pc' := 6) dX6_joined_5 rfl rfl ?_
    refine go_iconst (pc' := 7) dX6_joined_6 rfl (r32_c rfl) ?_
    refine go_icmp_ne (t := 26) (pc' := 10) dX6_joined_7 rfl rfl (fun c18 => ?_) (fun c18 => ?_)
    · rw [if_pos (show x1 ≠ 4 from c18)] at h
      refine go_iload_n (pc' := 27) dX6_joined_26 rfl rfl ?_
      refine go_iconst (pc' := 28) dX6_joined_27 rfl (r32_c rfl) ?_
      obtain ⟨j6, k7, h⟩ := bd h
      have k7J : Go none (Ev (d + 2)) mt111 44 [some (pvI x1), some (pvL x2), none, some (pvL x3), none] [pvL j6] (true, n, e, σ) (0, some (pvL r), true, n, e, σ) := by
        cases h
        exact go_lret dX6_joined_44 rfl rfl
      clear h
      have h := k7
      refine go_icmp_ne (t := 39) (pc' := 31) dX6_joined_28 rfl rfl (fun c12 => ?_) (fun c12 => ?_)
      · rw [if_pos (show x1 ≠ 5 from c12)] at h
        refine go_lload_n (pc' := 40) dX6_joined_39 rfl rfl ?_
        refine go_lload_n (pc' := 41) dX6_joined_40 rfl rfl ?_
        obtain ⟨v8, k9, h⟩ := bd h
        have k9 := l_R_ratio (d + 0) n e σ x2 x3 _ k9
        refine go_call (kc := 100) (Mc := mt100) (v := some (pvL v8)) (w' := (true, n, e, σ)) (pc' := 44) (st' := [pvL v8]) [pvL x2, pvL x3] [] (Or.inr (Or.inl rfl)) dX6_joined_41 rfl rm_6_150 mtE100 rfl rfl rfl (Nat.le_of_ble_eq_true rfl) (Or.inl (by decide)) k9 rfl ?_
        cases h
        exact k7J
      · rw [if_neg (show ¬ (x1 ≠ 5) from c12)] at h
        refine go_lload_n (pc' := 32) dX6_joined_31 rfl rfl ?_
        refine go_lload_n (pc' := 33) dX6_joined_32 rfl rfl ?_
        obtain ⟨v10, k11, h⟩ := bd h
        have k11 := l_R_product (d + 1) n e σ x2 x3 _ k11
        refine go_call (kc := 112) (Mc := mt112) (v := some (pvL v10)) (w' := (true, n, e, σ)) (pc' := 36) (st' := [pvL v10]) [pvL x2, pvL x3] [] (Or.inr (Or.inl rfl)) dX6_joined_33 rfl rm_6_146 mtE112 rfl rfl rfl (Nat.le_of_ble_eq_true rfl) (Or.inl (by decide)) k11 rfl ?_
        refine go_goto (t := 44) dX6_joined_36 rfl ?_
        cases h
        exact k7J
    · rw [if_neg (show ¬ (x1 ≠ 4) from c18)] at h
      refine go_lload_n (pc' := 11) dX6_joined_10 rfl rfl ?_
      refine go_lload_n (pc' := 12) dX6_joined_11 rfl rfl ?_
      refine go_iload_n (pc' := 13) dX6_joined_12 rfl rfl ?_
      refine go_iconst (pc' := 14) dX6_joined_13 rfl (r32_c rfl) ?_
      obtain ⟨j13, k14, h⟩ := bd h
      have k14J : Go none (Ev (d + 2)) mt111 22 [some (pvI x1), some (pvL x2), none, some (pvL x3), none] [pvI j13, pvL x3, pvL x2] (true, n, e, σ) (0, some (pvL r), true, n, e, σ) := by
        obtain ⟨v15, k16, h⟩ := bd h
        have k16 := l_R_plus (d + 0) n e σ x2 x3 j13 _ k16
        refine go_call (kc := 108) (Mc := mt108) (v := some (pvL v15)) (w' := (true, n, e, σ)) (pc' := 25) (st' := [pvL v15]) [pvL x2, pvL x3, pvI j13] [] (Or.inr (Or.inl rfl)) dX6_joined_22 rfl rm_6_142 mtE108 rfl rfl rfl (Nat.le_of_ble_eq_true rfl) (Or.inl (by decide)) k16 rfl ?_
        cases h
        exact go_lret dX6_joined_25 rfl rfl
      clear h
      have h := k14
      refine go_icmp_ne (t := 21) (pc' := 17) dX6_joined_14 rfl rfl (fun c17 => ?_) (fun c17 => ?_)
      · rw [if_pos (show x1 ≠ 3 from c17)] at h
        refine go_iconst (pc' := 22) dX6_joined_21 rfl (r32_c rfl) ?_
        cases h
        exact k14J
      · rw [if_neg (show ¬ (x1 ≠ 3) from c17)] at h
        refine go_iconst (pc' := 18) dX6_joined_17 rfl (r32_c rfl) ?_
        refine go_goto (t := 22) dX6_joined_18 rfl ?_
        cases h
        exact k14J

set_option maxRecDepth 10000 in
theorem l_R_formulaValue_40 (V : Hp → Int → Int → Option (Int × Hp)) (u : Nat) (hV : ∀ (d n e : Nat) (σ : Hp) (x1 : Int) (x2 : Int) (r : Int × Hp), V σ x1 x2 = some r → Ev (d + u) 94 [pvR 6 0 116, pvI x1, pvI x2] (true, n, e, σ) (0, some (pvL r.1), true, n, e, r.2)) (d : Nat) (n : Nat) (e : Nat) (x1 : Int) (x2 : Int) (x3 : Int) (v5 : Int) {out : Out} : ∀ (F : Nat) (y8 : Int) (y9 : Int) (σ10 : Hp) (j49 : Int × Int × Hp), f_R_formulaValue_40 V x1 x2 x3 v5 F y8 y9 σ10 = some j49 → Go none (Ev (d + u + 4)) mt105 200 [some (pvR 6 0 116), some (pvI x1), some (pvI x2), some (pvI x3), some (pvF v5), some (pvI (x3 * 10)), some (pvI j49.1), some (pvI j49.2.1), none, none] [] (true, n, e, j49.2.2) out → Go none (Ev (d + u + 4)) mt105 40 [some (pvR 6 0 116), some (pvI x1), some (pvI x2), some (pvI x3), some (pvF v5), some (pvI (x3 * 10)), some (pvI y8), some (pvI y9), none, none] [] (true, n, e, σ10) out := by
  intro F
  induction F with
  | zero =>
    intro _ _ _ _ h
    intro _
    rw [f_R_formulaValue_40] at h
    cases h
  | succ F ih =>
    intro y8 y9 σ10 j49 h hx
    rw [f_R_formulaValue_40] at h
    refine go_iload (pc' := 42) dX6_formulaValue_40 rfl rfl ?_
    refine go_aload (pc' := 44) dX6_formulaValue_42 rfl rfl (Nat.le_of_ble_eq_true rfl) ?_
    obtain ⟨g11, h⟩ := gd h
    refine go_getIF (pc' := 47) dX6_formulaValue_44 rfl rf_6_94 rfl g11 ?_
    refine go_icmp_ge (t := 200) (pc' := 50) dX6_formulaValue_47 rfl rfl (fun c48 => ?_) (fun c48 => ?_)
    · rw [if_pos (show (σ10 (Int.toNat v5) 0) ≤ y9 from c48)] at h
      cases h
      exact hx
    · rw [if_neg (show ¬ ((σ10 (Int.toNat v5) 0) ≤ y9) from c48)] at h
      refine go_aload (pc' := 52) dX6_formulaValue_50 rfl rfl (Nat.le_of_ble_eq_true rfl) ?_
      obtain ⟨g12, h⟩ := gd h
      refine go_getRF (k' := 12) (L0 := 10) (P' := (Int.toNat v5 + 1)) (pc' := 55) dX6_formulaValue_52 rfl rf_6_99 rfl rfl g12 (by omega) ?_
      refine go_iload (pc' := 57) dX6_formulaValue_55 rfl rfl ?_
      obtain ⟨g13, h⟩ := gd h
      refine go_iald (pc' := 58) dX6_formulaValue_57 rfl g13 ?_
      refine go_istore (L' := [some (pvR 6 0 116), some (pvI x1), some (pvI x2), some (pvI x3), some (pvF v5), some (pvI (x3 * 10)), some (pvI y8), some (pvI y9), some (pvI (σ10 (Int.toNat v5 + 1) y9)), none]) (pc' := 60) dX6_formulaValue_58 rfl (Nat.le_of_ble_eq_true rfl) rfl ?_
      refine go_iload (pc' := 62) dX6_formulaValue_60 rfl rfl ?_
      obtain ⟨j14, k15, h⟩ := bd h
      have k15J : Go none (Ev (d + u + 4)) mt105 194 [some (pvR 6 0 116), some (pvI x1), some (pvI x2), some (pvI x3), some (pvF v5), some (pvI (x3 * 10)), some (pvI j14.1), some (pvI y9), some (pvI (σ10 (Int.toNat v5 + 1) y9)), none] [] (true, n, e, j14.2) out := by
        obtain ⟨g46, h⟩ := gd h
        refine go_iinc (L' := [some (pvR 6 0 116), some (pvI x1), some (pvI x2), some (pvI x3), some (pvF v5), some (pvI (x3 * 10)), some (pvI j14.1), some (pvI (y9 + 1)), some (pvI (σ10 (Int.toNat v5 + 1) y9)), none]) (pc' := 197) dX6_formulaValue_194 rfl rfl g46 rfl ?_
        refine go_goto (t := 40) dX6_formulaValue_197 rfl ?_
        exact go_sub (ih j14.1 (y9 + 1) j14.2 _ h hx) ⟨Or.inr rfl, Or.inr rfl, Or.inr rfl, Or.inr rfl, Or.inr rfl, Or.inr rfl, Or.inr rfl, Or.inr rfl, Or.inl rfl, Or.inr rfl, trivial⟩
      clear h
      have h := k15
      refine go_if_ne (t := 87) (pc' := 65) dX6_formulaValue_62 rfl rfl (fun c47 => ?_) (fun c47 => ?_)
      · rw [if_pos (show (σ10 (Int.toNat v5 + 1) y9) ≠ 0 from c47)] at h
        refine go_iload (pc' := 89) dX6_formulaValue_87 rfl rfl ?_
        refine go_iconst (pc' := 90) dX6_formulaValue_89 rfl (r32_c rfl) ?_
        refine go_icmp_gt (t := 152) (pc' := 93) dX6_formulaValue_90 rfl rfl (fun c41 => ?_) (fun c41 => ?_)
        · rw [if_pos (show 2 < (σ10 (Int.toNat v5 + 1) y9) from c41)] at h
          refine go_iload (pc' := 154) dX6_formulaValue_152 rfl rfl ?_
          refine go_iload (pc' := 156) dX6_formulaValue_154 rfl rfl ?_
          obtain ⟨g16, h⟩ := gd h
          refine go_isub (pc' := 157) dX6_formulaValue_156 rfl g16 ?_
          refine go_iconst (pc' := 158) dX6_formulaValue_157 rfl (r32_c rfl) ?_
          refine go_icmp_lt (t := 194) (pc' := 161) dX6_formulaValue_158 rfl rfl (fun c25 => ?_) (fun c25 => ?_)
          · rw [if_pos (show (y8 - (x3 * 10)) < 2 from c25)] at h
            cases h
            exact k15J
          · rw [if_neg (show ¬ ((y8 - (x3 * 10)) < 2) from c25)] at h
            obtain ⟨g17, h⟩ := gd h
            refine go_iinc (L' := [some (pvR 6 0 116), some (pvI x1), some (pvI x2), some (pvI x3), some (pvF v5), some (pvI (x3 * 10)), some (pvI (y8 + (-1))), some (pvI y9), some (pvI (σ10 (Int.toNat v5 + 1) y9)), none]) (pc' := 164) dX6_formulaValue_161 rfl rfl g17 rfl ?_
            refine go_aload_n (pc' := 165) dX6_formulaValue_164 rfl rfl (Nat.le_of_ble_eq_true rfl) ?_
            refine go_getR (k' := 13) (L0 := 410) (P' := 119) (pc' := 168) dX6_formulaValue_165 rfl rf_6_19 rfl rfl (by omega) ?_
            refine go_iload (pc' := 170) dX6_formulaValue_168 rfl rfl ?_
            refine go_iconst (pc' := 171) dX6_formulaValue_170 rfl (r32_c rfl) ?_
            obtain ⟨g18, h⟩ := gd h
            refine go_isub (pc' := 172) dX6_formulaValue_171 rfl g18 ?_
            refine go_iload (pc' := 174) dX6_formulaValue_172 rfl rfl ?_
            refine go_aload_n (pc' := 175) dX6_formulaValue_174 rfl rfl (Nat.le_of_ble_eq_true rfl) ?_
            refine go_getR (k' := 13) (L0 := 410) (P' := 119) (pc' := 178) dX6_formulaValue_175 rfl rf_6_19 rfl rfl (by omega) ?_
            refine go_iload (pc' := 180) dX6_formulaValue_178 rfl rfl ?_
            refine go_iconst (pc' := 181) dX6_formulaValue_180 rfl (r32_c rfl) ?_
            obtain ⟨g19, h⟩ := gd h
            refine go_isub (pc' := 182) dX6_formulaValue_181 rfl g19 ?_
            obtain ⟨g20, h⟩ := gd h
            refine go_lald (pc' := 183) dX6_formulaValue_182 rfl g20 ?_
            refine go_aload_n (pc' := 184) dX6_formulaValue_183 rfl rfl (Nat.le_of_ble_eq_true rfl) ?_
            refine go_getR (k' := 13) (L0 := 410) (P' := 119) (pc' := 187) dX6_formulaValue_184 rfl rf_6_19 rfl rfl (by omega) ?_
            refine go_iload (pc' := 189) dX6_formulaValue_187 rfl rfl ?_
            obtain ⟨g21, h⟩ := gd h
            refine go_lald (pc' := 190) dX6_formulaValue_189 rfl g21 ?_
            obtain ⟨v22, k23, h⟩ := bd h
            have k23 := l_R_joined (d + u + 1) n e σ10 (σ10 (Int.toNat v5 + 1) y9) (σ10 119 ((y8 + (-1)) - 1)) (σ10 119 (y8 + (-1))) _ k23
            refine go_call (kc := 111) (Mc := mt111) (v := some (pvL v22)) (w' := (true, n, e, σ10)) (pc' := 193) (st' := [pvL v22, pvI ((y8 + (-1)) - 1), pvR 13 410 119]) [pvI (σ10 (Int.toNat v5 + 1) y9), pvL (σ10 119 ((y8 + (-1)) - 1)), pvL (σ10 119 (y8 + (-1)))] [pvI ((y8 + (-1)) - 1), pvR 13 410 119] (Or.inr (Or.inl rfl)) dX6_formulaValue_190 rfl rm_6_118 mtE111 rfl rfl rfl (Nat.le_of_ble_eq_true rfl) (Or.inl (by decide)) k23 rfl ?_
            obtain ⟨g24, h⟩ := gd h
            refine go_last (pc' := 194) dX6_formulaValue_193 rfl g24 ?_
            cases h
            exact k15J
        · rw [if_neg (show ¬ (2 < (σ10 (Int.toNat v5 + 1) y9)) from c41)] at h
          refine go_iload_n (pc' := 94) dX6_formulaValue_93 rfl rfl ?_
          refine go_iload_n (pc' := 95) dX6_formulaValue_94 rfl rfl ?_
          refine go_aload (pc' := 97) dX6_formulaValue_95 rfl rfl (Nat.le_of_ble_eq_true rfl) ?_
          obtain ⟨g26, h⟩ := gd h
          refine go_getRF (k' := 12) (L0 := 10) (P' := (Int.toNat v5 + 2)) (pc' := 100) dX6_formulaValue_97 rfl rf_6_102 rfl rfl g26 (by omega) ?_
          refine go_iload (pc' := 102) dX6_formulaValue_100 rfl rfl ?_
          obtain ⟨g27, h⟩ := gd h
          refine go_iald (pc' := 103) dX6_formulaValue_102 rfl g27 ?_
          obtain ⟨v28, k29, h⟩ := bd h
          have k29 := l_C_withMember (d + u + 2) n e σ10 x1 x2 (σ10 (Int.toNat v5 + 2) y9) _ k29
          refine go_call (kc := 93) (Mc := mt93) (v := some (pvI v28)) (w' := (true, n, e, σ10)) (pc' := 106) (st' := [pvI v28]) [pvI x1, pvI x2, pvI (σ10 (Int.toNat v5 + 2) y9)] [] (Or.inr (Or.inr (Or.inr (Or.inl rfl)))) dX6_formulaValue_103 rfl rm_6_105 mtE93 rfl rfl rfl (Nat.le_of_ble_eq_true rfl) (Or.inl (by decide)) k29 rfl ?_
          refine go_istore (L' := [some (pvR 6 0 116), some (pvI x1), some (pvI x2), some (pvI x3), some (pvF v5), some (pvI (x3 * 10)), some (pvI y8), some (pvI y9), some (pvI (σ10 (Int.toNat v5 + 1) y9)), some (pvI v28)]) (pc' := 108) dX6_formulaValue_106 rfl (Nat.le_of_ble_eq_true rfl) rfl ?_
          refine go_aload_n (pc' := 109) dX6_formulaValue_108 rfl rfl (Nat.le_of_ble_eq_true rfl) ?_
          refine go_getR (k' := 13) (L0 := 410) (P' := 119) (pc' := 112) dX6_formulaValue_109 rfl rf_6_19 rfl rfl (by omega) ?_
          refine go_iload (pc' := 114) dX6_formulaValue_112 rfl rfl ?_
          refine go_iload (pc' := 116) dX6_formulaValue_114 rfl rfl ?_
          refine go_iconst (pc' := 117) dX6_formulaValue_116 rfl (r32_c rfl) ?_
          obtain ⟨j30, k31, h⟩ := bd h
          have k31J : Go none (Ev (d + u + 4)) mt105 145 [some (pvR 6 0 116), some (pvI x1), some (pvI x2), some (pvI x3), some (pvF v5), some (pvI (x3 * 10)), some (pvI y8), some (pvI y9), some (pvI (σ10 (Int.toNat v5 + 1) y9)), some (pvI v28)] [pvL j30.1, pvI y8, pvR 13 410 119] (true, n, e, j30.2) out := by
            obtain ⟨g38, h⟩ := gd h
            refine go_last (pc' := 146) dX6_formulaValue_145 rfl g38 ?_
            obtain ⟨g39, h⟩ := gd h
            refine go_iinc (L' := [some (pvR 6 0 116), some (pvI x1), some (pvI x2), some (pvI x3), some (pvF v5), some (pvI (x3 * 10)), some (pvI (y8 + 1)), some (pvI y9), some (pvI (σ10 (Int.toNat v5 + 1) y9)), some (pvI v28)]) (pc' := 149) dX6_formulaValue_146 rfl rfl g39 rfl ?_
            refine go_goto (t := 194) dX6_formulaValue_149 rfl ?_
            cases h
            exact go_sub k15J ⟨Or.inr rfl, Or.inr rfl, Or.inr rfl, Or.inr rfl, Or.inr rfl, Or.inr rfl, Or.inr rfl, Or.inr rfl, Or.inr rfl, Or.inl rfl, trivial⟩
          clear h
          have h := k31
          refine go_icmp_ne (t := 130) (pc' := 120) dX6_formulaValue_117 rfl rfl (fun c40 => ?_) (fun c40 => ?_)
          · rw [if_pos (show (σ10 (Int.toNat v5 + 1) y9) ≠ 2 from c40)] at h
            refine go_aload_n (pc' := 131) dX6_formulaValue_130 rfl rfl (Nat.le_of_ble_eq_true rfl) ?_
            refine go_iload (pc' := 133) dX6_formulaValue_131 rfl rfl ?_
            refine go_aload (pc' := 135) dX6_formulaValue_133 rfl rfl (Nat.le_of_ble_eq_true rfl) ?_
            obtain ⟨g32, h⟩ := gd h
            refine go_getRF (k' := 12) (L0 := 10) (P' := (Int.toNat v5 + 3)) (pc' := 138) dX6_formulaValue_135 rfl rf_6_112 rfl rfl g32 (by omega) ?_
            refine go_iload (pc' := 140) dX6_formulaValue_138 rfl rfl ?_
            obtain ⟨g33, h⟩ := gd h
            refine go_iald (pc' := 141) dX6_formulaValue_140 rfl g33 ?_
            refine go_iload_n (pc' := 142) dX6_formulaValue_141 rfl rfl ?_
            obtain ⟨v34, k35, h⟩ := bd h
            have k35 := (by have z := l_R_back V u hV (d + 0) n e σ10 v28 (σ10 (Int.toNat v5 + 3) y9) x3 _ k35; rwa [show d + 0 + u + 4 = d + u + 4 by omega] at z)
            refine go_call (kc := 109) (Mc := mt109) (v := some (pvL v34.1)) (w' := (true, n, e, v34.2)) (pc' := 145) (st' := [pvL v34.1, pvI y8, pvR 13 410 119]) [pvR 6 0 116, pvI v28, pvI (σ10 (Int.toNat v5 + 3) y9), pvI x3] [pvI y8, pvR 13 410 119] (Or.inl rfl) dX6_formulaValue_142 rfl rm_6_115 mtE109 rfl rfl rfl (Nat.le_of_ble_eq_true rfl) (Or.inr ⟨_, _, 116, rfl, Or.inl rfl⟩) k35 rfl ?_
            cases h
            exact k31J
          · rw [if_neg (show ¬ ((σ10 (Int.toNat v5 + 1) y9) ≠ 2) from c40)] at h
            refine go_aload_n (pc' := 121) dX6_formulaValue_120 rfl rfl (Nat.le_of_ble_eq_true rfl) ?_
            refine go_iload (pc' := 123) dX6_formulaValue_121 rfl rfl ?_
            refine go_iload_n (pc' := 124) dX6_formulaValue_123 rfl rfl ?_
            obtain ⟨v36, k37, h⟩ := bd h
            have k37 := (by have z := l_R_toDate V u hV (d + 1) n e σ10 v28 x3 _ k37; rwa [show d + 1 + u + 3 = d + u + 4 by omega] at z)
            refine go_call (kc := 107) (Mc := mt107) (v := some (pvL v36.1)) (w' := (true, n, e, v36.2)) (pc' := 127) (st' := [pvL v36.1, pvI y8, pvR 13 410 119]) [pvR 6 0 116, pvI v28, pvI x3] [pvI y8, pvR 13 410 119] (Or.inl rfl) dX6_formulaValue_124 rfl rm_6_109 mtE107 rfl rfl rfl (Nat.le_of_ble_eq_true rfl) (Or.inr ⟨_, _, 116, rfl, Or.inl rfl⟩) k37 rfl ?_
            refine go_goto (t := 145) dX6_formulaValue_127 rfl ?_
            cases h
            exact k31J
      · rw [if_neg (show ¬ ((σ10 (Int.toNat v5 + 1) y9) ≠ 0) from c47)] at h
        refine go_aload_n (pc' := 66) dX6_formulaValue_65 rfl rfl (Nat.le_of_ble_eq_true rfl) ?_
        refine go_getR (k' := 13) (L0 := 410) (P' := 119) (pc' := 69) dX6_formulaValue_66 rfl rf_6_19 rfl rfl (by omega) ?_
        refine go_iload (pc' := 71) dX6_formulaValue_69 rfl rfl ?_
        refine go_aload (pc' := 73) dX6_formulaValue_71 rfl rfl (Nat.le_of_ble_eq_true rfl) ?_
        obtain ⟨g42, h⟩ := gd h
        refine go_getRF (k' := 12) (L0 := 10) (P' := (Int.toNat v5 + 2)) (pc' := 76) dX6_formulaValue_73 rfl rf_6_102 rfl rfl g42 (by omega) ?_
        refine go_iload (pc' := 78) dX6_formulaValue_76 rfl rfl ?_
        obtain ⟨g43, h⟩ := gd h
        refine go_iald (pc' := 79) dX6_formulaValue_78 rfl g43 ?_
        refine go_i2l (pc' := 80) dX6_formulaValue_79 rfl ?_
        obtain ⟨g44, h⟩ := gd h
        refine go_last (pc' := 81) dX6_formulaValue_80 rfl g44 ?_
        obtain ⟨g45, h⟩ := gd h
        refine go_iinc (L' := [some (pvR 6 0 116), some (pvI x1), some (pvI x2), some (pvI x3), some (pvF v5), some (pvI (x3 * 10)), some (pvI (y8 + 1)), some (pvI y9), some (pvI (σ10 (Int.toNat v5 + 1) y9)), none]) (pc' := 84) dX6_formulaValue_81 rfl rfl g45 rfl ?_
        refine go_goto (t := 194) dX6_formulaValue_84 rfl ?_
        cases h
        exact k15J

set_option maxRecDepth 10000 in
theorem l_R_formulaValue (V : Hp → Int → Int → Option (Int × Hp)) (u : Nat) (hV : ∀ (d n e : Nat) (σ : Hp) (x1 : Int) (x2 : Int) (r : Int × Hp), V σ x1 x2 = some r → Ev (d + u) 94 [pvR 6 0 116, pvI x1, pvI x2] (true, n, e, σ) (0, some (pvL r.1), true, n, e, r.2)) (d : Nat) (n e : Nat) (σ : Hp) (x1 : Int) (x2 : Int) (x3 : Int) (r : Int × Hp) (h : f_R_formulaValue V σ x1 x2 x3 = some r) : Ev (d + u + 5) 105 [pvR 6 0 116, pvI x1, pvI x2, pvI x3] (true, n, e, σ) (0, some (pvL r.1), true, n, e, r.2) := by
  unfold f_R_formulaValue at h
  refine Ev.of mtE105 rfl rfl rfl rfl ?_
  show Go none (Ev (d + u + 4)) mt105 0 [some (pvR 6 0 116), some (pvI x1), some (pvI x2), some (pvI x3), none, none, none, none, none, none] [] (true, n, e, σ) (0, some (pvL r.1), true, n, e, r.2)
  refine go_aload_n (pc' := 1) dX6_formulaValue_0 rfl rfl (Nat.le_of_ble_eq_true rfl) ?_
  refine go_getR (k' := 7) (L0 := 0) (P' := 1) (pc' := 4) dX6_formulaValue_1 rfl rf_6_37 rfl rfl (by omega) ?_
  refine go_iload_n (pc' := 5) dX6_formulaValue_4 rfl rfl ?_
  obtain ⟨v1, k2, h⟩ := bd h
  have k2 := l_S_dimension (d + u + 3) n e σ x2 _ k2
  refine go_call (kc := 14) (Mc := mt14) (v := some (pvR 0 0 v1)) (w' := (true, n, e, σ)) (pc' := 8) (st' := [pvR 0 0 v1]) [pvR 7 0 1, pvI x2] [] (Or.inl rfl) dX6_formulaValue_5 rfl rm_6_80 mtE14 rfl rfl rfl (Nat.le_of_ble_eq_true rfl) (Or.inr ⟨_, _, 1, rfl, Or.inl rfl⟩) k2 rfl ?_
  refine go_iload_n (pc' := 9) dX6_formulaValue_8 rfl rfl ?_
  refine go_iload_n (pc' := 10) dX6_formulaValue_9 rfl rfl ?_
  obtain ⟨v3, k4, h⟩ := bd h
  have k4 := l_C_memberOf (d + u + 3) n e σ x1 x2 _ k4
  refine go_call (kc := 61) (Mc := mt61) (v := some (pvI v3)) (w' := (true, n, e, σ)) (pc' := 13) (st' := [pvI v3, pvR 0 0 v1]) [pvI x1, pvI x2] [pvR 0 0 v1] (Or.inr (Or.inr (Or.inr (Or.inl rfl)))) dX6_formulaValue_10 rfl rm_6_84 mtE61 rfl rfl rfl (Nat.le_of_ble_eq_true rfl) (Or.inl (by decide)) k4 rfl ?_
  obtain ⟨v5, k6, h⟩ := bd h
  have k6 := l_D_formulaOf (d + u + 2) n e σ v1 v3 _ k6
  refine go_call (kc := 106) (Mc := mt106) (v := some (pvF v5)) (w' := (true, n, e, σ)) (pc' := 16) (st' := [pvF v5]) [pvR 0 0 v1, pvI v3] [] (Or.inl rfl) dX6_formulaValue_13 rfl rm_6_88 mtE106 rfl rfl rfl (Nat.le_of_ble_eq_true rfl) (Or.inr ⟨_, _, v1, rfl, Or.inl rfl⟩) k6 rfl ?_
  refine go_astore (L' := [some (pvR 6 0 116), some (pvI x1), some (pvI x2), some (pvI x3), some (pvF v5), none, none, none, none, none]) (pc' := 18) dX6_formulaValue_16 rfl (Nat.le_of_ble_eq_true rfl) (Nat.le_of_ble_eq_true rfl) rfl ?_
  refine go_aload (pc' := 20) dX6_formulaValue_18 rfl rfl (Nat.le_of_ble_eq_true rfl) ?_
  refine go_ifnn (t := 27) (pc' := 23) dX6_formulaValue_20 rfl rfl (fun c56 => ?_) (fun c56 => ?_)
  · rw [if_pos (show 0 ≤ v5 from c56)] at h
    refine go_iload_n (pc' := 28) dX6_formulaValue_27 rfl rfl ?_
    refine go_bipush (pc' := 30) dX6_formulaValue_28 rfl (r32_c rfl) (by decide) ?_
    obtain ⟨g7, h⟩ := gd h
    refine go_imul (pc' := 31) dX6_formulaValue_30 rfl g7 ?_
    refine go_istore (L' := [some (pvR 6 0 116), some (pvI x1), some (pvI x2), some (pvI x3), some (pvF v5), some (pvI (x3 * 10)), none, none, none, none]) (pc' := 33) dX6_formulaValue_31 rfl (Nat.le_of_ble_eq_true rfl) rfl ?_
    refine go_iload (pc' := 35) dX6_formulaValue_33 rfl rfl ?_
    refine go_istore (L' := [some (pvR 6 0 116), some (pvI x1), some (pvI x2), some (pvI x3), some (pvF v5), some (pvI (x3 * 10)), some (pvI (x3 * 10)), none, none, none]) (pc' := 37) dX6_formulaValue_35 rfl (Nat.le_of_ble_eq_true rfl) rfl ?_
    refine go_iconst (pc' := 38) dX6_formulaValue_37 rfl (r32_c rfl) ?_
    refine go_istore (L' := [some (pvR 6 0 116), some (pvI x1), some (pvI x2), some (pvI x3), some (pvF v5), some (pvI (x3 * 10)), some (pvI (x3 * 10)), some (pvI 0), none, none]) (pc' := 40) dX6_formulaValue_38 rfl (Nat.le_of_ble_eq_true rfl) rfl ?_
    obtain ⟨j50, k51, h⟩ := bd h
    refine l_R_formulaValue_40 V u hV d n e x1 x2 x3 v5 zFuel (x3 * 10) 0 σ _ k51 ?_
    refine go_iload (pc' := 202) dX6_formulaValue_200 rfl rfl ?_
    refine go_iload (pc' := 204) dX6_formulaValue_202 rfl rfl ?_
    obtain ⟨j52, k53, h⟩ := bd h
    have k53J : Go none (Ev (d + u + 4)) mt105 220 [some (pvR 6 0 116), some (pvI x1), some (pvI x2), some (pvI x3), some (pvF v5), some (pvI (x3 * 10)), some (pvI j50.1), some (pvI j50.2.1), none, none] [pvL j52] (true, n, e, j50.2.2) (0, some (pvL r.1), true, n, e, r.2) := by
      cases h
      exact go_lret dX6_formulaValue_220 rfl rfl
    clear h
    have h := k53
    refine go_icmp_le (t := 217) (pc' := 207) dX6_formulaValue_204 rfl rfl (fun c55 => ?_) (fun c55 => ?_)
    · rw [if_pos (show j50.1 ≤ (x3 * 10) from c55)] at h
      refine go_ldc2 (pc' := 220) dX6_formulaValue_217 rfl (r64_c rfl) rc_6_66 ?_
      cases h
      exact k53J
    · rw [if_neg (show ¬ (j50.1 ≤ (x3 * 10)) from c55)] at h
      refine go_aload_n (pc' := 208) dX6_formulaValue_207 rfl rfl (Nat.le_of_ble_eq_true rfl) ?_
      refine go_getR (k' := 13) (L0 := 410) (P' := 119) (pc' := 211) dX6_formulaValue_208 rfl rf_6_19 rfl rfl (by omega) ?_
      refine go_iload (pc' := 213) dX6_formulaValue_211 rfl rfl ?_
      obtain ⟨g54, h⟩ := gd h
      refine go_lald (pc' := 214) dX6_formulaValue_213 rfl g54 ?_
      refine go_goto (t := 220) dX6_formulaValue_214 rfl ?_
      cases h
      exact k53J
  · rw [if_neg (show ¬ (0 ≤ v5) from c56)] at h
    refine go_ldc2 (pc' := 26) dX6_formulaValue_23 rfl (r64_c rfl) rc_6_66 ?_
    cases h
    exact go_lret dX6_formulaValue_26 rfl rfl

set_option maxRecDepth 10000 in
theorem l_R_valueOf : ∀ (F : Nat) (d n e : Nat) (σ : Hp) (x1 : Int) (x2 : Int) (r : Int × Hp), f_R_valueOf F σ x1 x2 = some r → Ev (d + F * 6) 94 [pvR 6 0 116, pvI x1, pvI x2] (true, n, e, σ) (0, some (pvL r.1), true, n, e, r.2) := by
  intro F
  induction F with
  | zero =>
    intro _ _ _ _ _ _ _ h
    rw [f_R_valueOf] at h
    cases h
  | succ F ih =>
    intro d n e σ x1 x2 r h
    rw [f_R_valueOf] at h
    rw [show d + (F + 1) * 6 = d + F * 6 + 5 + 1 by omega]
    refine Ev.of mtE94 rfl rfl rfl rfl ?_
    show Go none (Ev (d + F * 6 + 5)) mt94 0 [some (pvR 6 0 116), some (pvI x1), some (pvI x2), none] [] (true, n, e, σ) (0, some (pvL r.1), true, n, e, r.2)
    refine go_iload_n (pc' := 1) dX6_valueOf_0 rfl rfl ?_
    refine go_if_lt (t := 17) (pc' := 4) dX6_valueOf_1 rfl rfl (fun c19 => ?_) (fun c19 => ?_)
    · rw [if_pos (show x1 < 0 from c19)] at h
      refine go_ldc2 (pc' := 20) dX6_valueOf_17 rfl (r64_c rfl) rc_6_66 ?_
      cases h
      exact go_lret dX6_valueOf_20 rfl rfl
    · rw [if_neg (show ¬ (x1 < 0) from c19)] at h
      refine go_iload_n (pc' := 5) dX6_valueOf_4 rfl rfl ?_
      refine go_sipush (pc' := 8) dX6_valueOf_5 rfl (r32_c rfl) (by decide) ?_
      refine go_icmp_ge (t := 17) (pc' := 11) dX6_valueOf_8 rfl rfl (fun c18 => ?_) (fun c18 => ?_)
      · rw [if_pos (show 1728 ≤ x1 from c18)] at h
        refine go_ldc2 (pc' := 20) dX6_valueOf_17 rfl (r64_c rfl) rc_6_66 ?_
        cases h
        exact go_lret dX6_valueOf_20 rfl rfl
      · rw [if_neg (show ¬ (1728 ≤ x1) from c18)] at h
        refine go_iload_n (pc' := 12) dX6_valueOf_11 rfl rfl ?_
        refine go_bipush (pc' := 14) dX6_valueOf_12 rfl (r32_c rfl) (by decide) ?_
        refine go_icmp_le (t := 21) (pc' := 17) dX6_valueOf_14 rfl rfl (fun c17 => ?_) (fun c17 => ?_)
        · rw [if_pos (show x2 ≤ 40 from c17)] at h
          refine go_aload_n (pc' := 22) dX6_valueOf_21 rfl rfl (Nat.le_of_ble_eq_true rfl) ?_
          refine go_getR (k' := 12) (L0 := 1728) (P' := 117) (pc' := 25) dX6_valueOf_22 rfl rf_6_9 rfl rfl (by omega) ?_
          refine go_iload_n (pc' := 26) dX6_valueOf_25 rfl rfl ?_
          obtain ⟨g1, h⟩ := gd h
          refine go_iald (pc' := 27) dX6_valueOf_26 rfl g1 ?_
          refine go_aload_n (pc' := 28) dX6_valueOf_27 rfl rfl (Nat.le_of_ble_eq_true rfl) ?_
          refine go_getI (pc' := 31) dX6_valueOf_28 rfl rf_6_53 rfl ?_
          obtain ⟨j2, k3, h⟩ := bd h
          have k3J : Go none (Ev (d + F * 6 + 5)) mt94 79 [some (pvR 6 0 116), some (pvI x1), some (pvI x2), none] [] (true, n, e, j2) (0, some (pvL r.1), true, n, e, r.2) := by
            refine go_aload_n (pc' := 80) dX6_valueOf_79 rfl rfl (Nat.le_of_ble_eq_true rfl) ?_
            refine go_getR (k' := 13) (L0 := 1728) (P' := 118) (pc' := 83) dX6_valueOf_80 rfl rf_6_15 rfl rfl (by omega) ?_
            refine go_iload_n (pc' := 84) dX6_valueOf_83 rfl rfl ?_
            obtain ⟨g15, h⟩ := gd h
            refine go_lald (pc' := 85) dX6_valueOf_84 rfl g15 ?_
            cases h
            exact go_lret dX6_valueOf_85 rfl rfl
          clear h
          have h := k3
          refine go_icmp_eq (t := 79) (pc' := 34) dX6_valueOf_31 rfl rfl (fun c16 => ?_) (fun c16 => ?_)
          · rw [if_pos (show (σ 117 x1) = (σ 116 4) from c16)] at h
            cases h
            exact k3J
          · rw [if_neg (show ¬ ((σ 117 x1) = (σ 116 4)) from c16)] at h
            refine go_aload_n (pc' := 35) dX6_valueOf_34 rfl rfl (Nat.le_of_ble_eq_true rfl) ?_
            refine go_getR (k' := 7) (L0 := 0) (P' := 1) (pc' := 38) dX6_valueOf_35 rfl rf_6_37 rfl rfl (by omega) ?_
            refine go_iload_n (pc' := 39) dX6_valueOf_38 rfl rfl ?_
            obtain ⟨v4, k5, h⟩ := bd h
            have k5 := l_S_leading (d + F * 6 + 2) n e σ x1 _ k5
            refine go_call (kc := 71) (Mc := mt71) (v := some (pvI v4)) (w' := (true, n, e, σ)) (pc' := 42) (st' := [pvI v4]) [pvR 7 0 1, pvI x1] [] (Or.inl rfl) dX6_valueOf_39 rfl rm_6_68 mtE71 rfl rfl rfl (Nat.le_of_ble_eq_true rfl) (Or.inr ⟨_, _, 1, rfl, Or.inl rfl⟩) k5 rfl ?_
            refine go_istore_n (L' := [some (pvR 6 0 116), some (pvI x1), some (pvI x2), some (pvI v4)]) (pc' := 43) dX6_valueOf_42 rfl (Nat.le_of_ble_eq_true rfl) rfl ?_
            refine go_aload_n (pc' := 44) dX6_valueOf_43 rfl rfl (Nat.le_of_ble_eq_true rfl) ?_
            refine go_getR (k' := 13) (L0 := 1728) (P' := 118) (pc' := 47) dX6_valueOf_44 rfl rf_6_15 rfl rfl (by omega) ?_
            refine go_iload_n (pc' := 48) dX6_valueOf_47 rfl rfl ?_
            refine go_iload_n (pc' := 49) dX6_valueOf_48 rfl rfl ?_
            refine go_iconst (pc' := 50) dX6_valueOf_49 rfl (r32_c rfl) ?_
            obtain ⟨j6, k7, h⟩ := bd h
            have k7J : Go none (Ev (d + F * 6 + 5)) mt94 68 [some (pvR 6 0 116), some (pvI x1), some (pvI x2), some (pvI v4)] [pvL j6.1, pvI x1, pvR 13 1728 118] (true, n, e, j6.2) (0, some (pvL r.1), true, n, e, r.2) := by
              obtain ⟨g12, h⟩ := gd h
              refine go_last (pc' := 69) dX6_valueOf_68 rfl g12 ?_
              refine go_aload_n (pc' := 70) dX6_valueOf_69 rfl rfl (Nat.le_of_ble_eq_true rfl) ?_
              refine go_getR (k' := 12) (L0 := 1728) (P' := 117) (pc' := 73) dX6_valueOf_70 rfl rf_6_9 rfl rfl (by omega) ?_
              refine go_iload_n (pc' := 74) dX6_valueOf_73 rfl rfl ?_
              refine go_aload_n (pc' := 75) dX6_valueOf_74 rfl rfl (Nat.le_of_ble_eq_true rfl) ?_
              refine go_getI (pc' := 78) dX6_valueOf_75 rfl rf_6_53 rfl ?_
              obtain ⟨g13, h⟩ := gd h
              refine go_iast (pc' := 79) dX6_valueOf_78 rfl g13 ?_
              cases h
              exact go_sub k3J ⟨Or.inr rfl, Or.inr rfl, Or.inr rfl, Or.inl rfl, trivial⟩
            clear h
            have h := k7
            refine go_icmp_ne (t := 61) (pc' := 53) dX6_valueOf_50 rfl rfl (fun c14 => ?_) (fun c14 => ?_)
            · rw [if_pos (show v4 ≠ (-1) from c14)] at h
              refine go_aload_n (pc' := 62) dX6_valueOf_61 rfl rfl (Nat.le_of_ble_eq_true rfl) ?_
              refine go_iload_n (pc' := 63) dX6_valueOf_62 rfl rfl ?_
              refine go_iload_n (pc' := 64) dX6_valueOf_63 rfl rfl ?_
              refine go_iload_n (pc' := 65) dX6_valueOf_64 rfl rfl ?_
              obtain ⟨v8, k9, h⟩ := bd h
              have k9 := l_R_formulaValue (f_R_valueOf F) (F * 6) (ih) (d + 0) n e σ x1 v4 x2 _ k9
              refine go_call (kc := 105) (Mc := mt105) (v := some (pvL v8.1)) (w' := (true, n, e, v8.2)) (pc' := 68) (st' := [pvL v8.1, pvI x1, pvR 13 1728 118]) [pvR 6 0 116, pvI x1, pvI v4, pvI x2] [pvI x1, pvR 13 1728 118] (Or.inl rfl) dX6_valueOf_65 rfl rm_6_76 mtE105 rfl rfl rfl (Nat.le_of_ble_eq_true rfl) (Or.inr ⟨_, _, 116, rfl, Or.inl rfl⟩) k9 rfl ?_
              cases h
              exact k7J
            · rw [if_neg (show ¬ (v4 ≠ (-1)) from c14)] at h
              refine go_aload_n (pc' := 54) dX6_valueOf_53 rfl rfl (Nat.le_of_ble_eq_true rfl) ?_
              refine go_iload_n (pc' := 55) dX6_valueOf_54 rfl rfl ?_
              obtain ⟨v10, k11, h⟩ := bd h
              have k11 := l_R_plainValue (d + F * 6 + 0) n e σ x1 _ k11
              refine go_call (kc := 95) (Mc := mt95) (v := some (pvL v10.1)) (w' := (true, n, e, v10.2)) (pc' := 58) (st' := [pvL v10.1, pvI x1, pvR 13 1728 118]) [pvR 6 0 116, pvI x1] [pvI x1, pvR 13 1728 118] (Or.inl rfl) dX6_valueOf_55 rfl rm_6_72 mtE95 rfl rfl rfl (Nat.le_of_ble_eq_true rfl) (Or.inr ⟨_, _, 116, rfl, Or.inl rfl⟩) k11 rfl ?_
              refine go_goto (t := 68) dX6_valueOf_58 rfl ?_
              cases h
              exact k7J
        · rw [if_neg (show ¬ (x2 ≤ 40) from c17)] at h
          refine go_ldc2 (pc' := 20) dX6_valueOf_17 rfl (r64_c rfl) rc_6_66 ?_
          cases h
          exact go_lret dX6_valueOf_20 rfl rfl

set_option maxRecDepth 10000 in
theorem l_R_rank_3 (d : Nat) (n : Nat) (e : Nat) (p1 : Nat) (x2 : Int) (x3 : Int) (x4 : Int) {out : Out} : ∀ (F : Nat) (y1 : Int) (σ2 : Hp) (j14 : Int × Hp), f_R_rank_3 p1 x4 F y1 σ2 = some j14 → Go none (Ev (d + 0)) mt113 61 [some (pvR 6 0 116), some (pvR 0 0 p1), some (pvI x2), some (pvI x3), some (pvL x4), none, some (pvI j14.1)] [] (true, n, e, j14.2) out → Go none (Ev (d + 0)) mt113 3 [some (pvR 6 0 116), some (pvR 0 0 p1), some (pvI x2), some (pvI x3), some (pvL x4), none, some (pvI y1)] [] (true, n, e, σ2) out := by
  intro F
  induction F with
  | zero =>
    intro _ _ _ h
    intro _
    rw [f_R_rank_3] at h
    cases h
  | succ F ih =>
    intro y1 σ2 j14 h hx
    rw [f_R_rank_3] at h
    refine go_iload (pc' := 5) dX6_rank_3 rfl rfl ?_
    refine go_if_le (t := 61) (pc' := 8) dX6_rank_5 rfl rfl (fun c13 => ?_) (fun c13 => ?_)
    · rw [if_pos (show y1 ≤ 0 from c13)] at h
      cases h
      exact hx
    · rw [if_neg (show ¬ (y1 ≤ 0) from c13)] at h
      refine go_aload_n (pc' := 9) dX6_rank_8 rfl rfl (Nat.le_of_ble_eq_true rfl) ?_
      refine go_getR (k' := 13) (L0 := 12) (P' := 124) (pc' := 12) dX6_rank_9 rfl rf_6_34 rfl rfl (by omega) ?_
      refine go_iload (pc' := 14) dX6_rank_12 rfl rfl ?_
      refine go_iconst (pc' := 15) dX6_rank_14 rfl (r32_c rfl) ?_
      obtain ⟨g3, h⟩ := gd h
      refine go_isub (pc' := 16) dX6_rank_15 rfl g3 ?_
      obtain ⟨g4, h⟩ := gd h
      refine go_lald (pc' := 17) dX6_rank_16 rfl g4 ?_
      refine go_lload (pc' := 19) dX6_rank_17 rfl rfl ?_
      refine go_lcmp (pc' := 20) dX6_rank_19 rfl ?_
      refine go_if_ge (t := 61) (pc' := 23) dX6_rank_20 rfl rfl (fun c12 => ?_) (fun c12 => ?_)
      · rw [if_pos (show 0 ≤ (lcm (σ2 124 (y1 - 1)) x4) from c12)] at h
        cases h
        exact hx
      · rw [if_neg (show ¬ (0 ≤ (lcm (σ2 124 (y1 - 1)) x4)) from c12)] at h
        refine go_aload_n (pc' := 24) dX6_rank_23 rfl rfl (Nat.le_of_ble_eq_true rfl) ?_
        refine go_getR (k' := 13) (L0 := 12) (P' := 124) (pc' := 27) dX6_rank_24 rfl rf_6_34 rfl rfl (by omega) ?_
        refine go_iload (pc' := 29) dX6_rank_27 rfl rfl ?_
        refine go_aload_n (pc' := 30) dX6_rank_29 rfl rfl (Nat.le_of_ble_eq_true rfl) ?_
        refine go_getR (k' := 13) (L0 := 12) (P' := 124) (pc' := 33) dX6_rank_30 rfl rf_6_34 rfl rfl (by omega) ?_
        refine go_iload (pc' := 35) dX6_rank_33 rfl rfl ?_
        refine go_iconst (pc' := 36) dX6_rank_35 rfl (r32_c rfl) ?_
        obtain ⟨g5, h⟩ := gd h
        refine go_isub (pc' := 37) dX6_rank_36 rfl g5 ?_
        obtain ⟨g6, h⟩ := gd h
        refine go_lald (pc' := 38) dX6_rank_37 rfl g6 ?_
        obtain ⟨g7, h⟩ := gd h
        refine go_last (pc' := 39) dX6_rank_38 rfl g7 ?_
        refine go_aload_n (pc' := 40) dX6_rank_39 rfl rfl (Nat.le_of_ble_eq_true rfl) ?_
        refine go_getR (k' := 12) (L0 := 12) (P' := (p1 + 12)) (pc' := 43) dX6_rank_40 rfl rf_6_253 rfl rfl (by omega) ?_
        refine go_iload (pc' := 45) dX6_rank_43 rfl rfl ?_
        refine go_aload_n (pc' := 46) dX6_rank_45 rfl rfl (Nat.le_of_ble_eq_true rfl) ?_
        refine go_getR (k' := 12) (L0 := 12) (P' := (p1 + 12)) (pc' := 49) dX6_rank_46 rfl rf_6_253 rfl rfl (by omega) ?_
        refine go_iload (pc' := 51) dX6_rank_49 rfl rfl ?_
        refine go_iconst (pc' := 52) dX6_rank_51 rfl (r32_c rfl) ?_
        obtain ⟨g8, h⟩ := gd h
        refine go_isub (pc' := 53) dX6_rank_52 rfl g8 ?_
        obtain ⟨g9, h⟩ := gd h
        refine go_iald (pc' := 54) dX6_rank_53 rfl g9 ?_
        obtain ⟨g10, h⟩ := gd h
        refine go_iast (pc' := 55) dX6_rank_54 rfl g10 ?_
        obtain ⟨g11, h⟩ := gd h
        refine go_iinc (L' := [some (pvR 6 0 116), some (pvR 0 0 p1), some (pvI x2), some (pvI x3), some (pvL x4), none, some (pvI (y1 + (-1)))]) (pc' := 58) dX6_rank_55 rfl rfl g11 rfl ?_
        refine go_goto (t := 3) dX6_rank_58 rfl ?_
        exact ih (y1 + (-1)) (hset (hset σ2 124 y1 (σ2 124 (y1 - 1))) (p1 + 12) y1 ((hset σ2 124 y1 (σ2 124 (y1 - 1))) (p1 + 12) (y1 - 1))) _ h hx

set_option maxRecDepth 10000 in
theorem l_R_rank (d : Nat) (n e : Nat) (σ : Hp) (p1 : Nat) (x2 : Int) (x3 : Int) (x4 : Int) (r : Hp) (h : f_R_rank σ p1 x2 x3 x4 = some r) : Ev (d + 1) 113 [pvR 6 0 116, pvR 0 0 p1, pvI x2, pvI x3, pvL x4] (true, n, e, σ) (0, none, true, n, e, r) := by
  unfold f_R_rank at h
  refine Ev.of mtE113 rfl rfl rfl rfl ?_
  show Go none (Ev (d + 0)) mt113 0 [some (pvR 6 0 116), some (pvR 0 0 p1), some (pvI x2), some (pvI x3), some (pvL x4), none, none] [] (true, n, e, σ) (0, none, true, n, e, r)
  refine go_iload_n (pc' := 1) dX6_rank_0 rfl rfl ?_
  refine go_istore (L' := [some (pvR 6 0 116), some (pvR 0 0 p1), some (pvI x2), some (pvI x3), some (pvL x4), none, some (pvI x2)]) (pc' := 3) dX6_rank_1 rfl (Nat.le_of_ble_eq_true rfl) rfl ?_
  obtain ⟨j15, k16, h⟩ := bd h
  refine l_R_rank_3 d n e p1 x2 x3 x4 zFuel x2 σ _ k16 ?_
  refine go_aload_n (pc' := 62) dX6_rank_61 rfl rfl (Nat.le_of_ble_eq_true rfl) ?_
  refine go_getR (k' := 13) (L0 := 12) (P' := 124) (pc' := 65) dX6_rank_62 rfl rf_6_34 rfl rfl (by omega) ?_
  refine go_iload (pc' := 67) dX6_rank_65 rfl rfl ?_
  refine go_lload (pc' := 69) dX6_rank_67 rfl rfl ?_
  obtain ⟨g17, h⟩ := gd h
  refine go_last (pc' := 70) dX6_rank_69 rfl g17 ?_
  refine go_aload_n (pc' := 71) dX6_rank_70 rfl rfl (Nat.le_of_ble_eq_true rfl) ?_
  refine go_getR (k' := 12) (L0 := 12) (P' := (p1 + 12)) (pc' := 74) dX6_rank_71 rfl rf_6_253 rfl rfl (by omega) ?_
  refine go_iload (pc' := 76) dX6_rank_74 rfl rfl ?_
  refine go_iload_n (pc' := 77) dX6_rank_76 rfl rfl ?_
  obtain ⟨g18, h⟩ := gd h
  refine go_iast (pc' := 78) dX6_rank_77 rfl g18 ?_
  cases h
  exact go_vret dX6_rank_78 rfl rfl

set_option maxRecDepth 10000 in
theorem l_R_keepTop_21 (d : Nat) (n : Nat) (e : Nat) (σ : Hp) (x1 : Int) (x2 : Int) (v1 : Nat) {out : Out} : ∀ (F : Nat) (y3 : Int) (y4 : Int) (σ5 : Hp) (j28 : Int × Int × Hp), f_R_keepTop_21 σ x1 v1 F y3 y4 σ5 = some j28 → Go none (Ev (d + 240)) mt90 114 [some (pvR 6 0 116), some (pvI x1), some (pvI x2), some (pvR 0 0 v1), some (pvI (σ v1 2)), some (pvI j28.1), some (pvI j28.2.1), none, none, none, none] [] (true, n, e, j28.2.2) out → Go none (Ev (d + 240)) mt90 21 [some (pvR 6 0 116), some (pvI x1), some (pvI x2), some (pvR 0 0 v1), some (pvI (σ v1 2)), some (pvI y3), some (pvI y4), none, none, none, none] [] (true, n, e, σ5) out := by
  intro F
  induction F with
  | zero =>
    intro _ _ _ _ h
    intro _
    rw [f_R_keepTop_21] at h
    cases h
  | succ F ih =>
    intro y3 y4 σ5 j28 h hx
    rw [f_R_keepTop_21] at h
    refine go_iload (pc' := 23) dX6_keepTop_21 rfl rfl ?_
    refine go_iload (pc' := 25) dX6_keepTop_23 rfl rfl ?_
    refine go_icmp_ge (t := 114) (pc' := 28) dX6_keepTop_25 rfl rfl (fun c27 => ?_) (fun c27 => ?_)
    · rw [if_pos (show (σ v1 2) ≤ y4 from c27)] at h
      cases h
      exact hx
    · rw [if_neg (show ¬ ((σ v1 2) ≤ y4) from c27)] at h
      refine go_iload (pc' := 30) dX6_keepTop_28 rfl rfl ?_
      refine go_bipush (pc' := 32) dX6_keepTop_30 rfl (r32_c rfl) (by decide) ?_
      refine go_icmp_ge (t := 114) (pc' := 35) dX6_keepTop_32 rfl rfl (fun c26 => ?_) (fun c26 => ?_)
      · rw [if_pos (show 12 ≤ y3 from c26)] at h
        cases h
        exact hx
      · rw [if_neg (show ¬ (12 ≤ y3) from c26)] at h
        refine go_aload_n (pc' := 36) dX6_keepTop_35 rfl rfl (Nat.le_of_ble_eq_true rfl) ?_
        refine go_iload (pc' := 38) dX6_keepTop_36 rfl rfl ?_
        obtain ⟨v6, k7, h⟩ := bd h
        have k7 := l_D_pickedAt (d + 239) n e σ5 v1 y4 _ k7
        refine go_call (kc := 91) (Mc := mt91) (v := some (pvI v6)) (w' := (true, n, e, σ5)) (pc' := 41) (st' := [pvI v6]) [pvR 0 0 v1, pvI y4] [] (Or.inl rfl) dX6_keepTop_38 rfl rm_6_240 mtE91 rfl rfl rfl (Nat.le_of_ble_eq_true rfl) (Or.inr ⟨_, _, v1, rfl, Or.inl rfl⟩) k7 rfl ?_
        refine go_istore (L' := [some (pvR 6 0 116), some (pvI x1), some (pvI x2), some (pvR 0 0 v1), some (pvI (σ v1 2)), some (pvI y3), some (pvI y4), some (pvI v6), none, none, none]) (pc' := 43) dX6_keepTop_41 rfl (Nat.le_of_ble_eq_true rfl) rfl ?_
        refine go_aload_n (pc' := 44) dX6_keepTop_43 rfl rfl (Nat.le_of_ble_eq_true rfl) ?_
        refine go_getR (k' := 7) (L0 := 0) (P' := 1) (pc' := 47) dX6_keepTop_44 rfl rf_6_37 rfl rfl (by omega) ?_
        obtain ⟨v8, k9, h⟩ := bd h
        have k9 := l_S_chosenCell (d + 239) n e σ5 _ k9
        refine go_call (kc := 92) (Mc := mt92) (v := some (pvI v8)) (w' := (true, n, e, σ5)) (pc' := 50) (st' := [pvI v8]) [pvR 7 0 1] [] (Or.inl rfl) dX6_keepTop_47 rfl rm_6_243 mtE92 rfl rfl rfl (Nat.le_of_ble_eq_true rfl) (Or.inr ⟨_, _, 1, rfl, Or.inl rfl⟩) k9 rfl ?_
        refine go_iload_n (pc' := 51) dX6_keepTop_50 rfl rfl ?_
        refine go_iload (pc' := 53) dX6_keepTop_51 rfl rfl ?_
        obtain ⟨v10, k11, h⟩ := bd h
        have k11 := l_C_withMember (d + 238) n e σ5 v8 x1 v6 _ k11
        refine go_call (kc := 93) (Mc := mt93) (v := some (pvI v10)) (w' := (true, n, e, σ5)) (pc' := 56) (st' := [pvI v10]) [pvI v8, pvI x1, pvI v6] [] (Or.inr (Or.inr (Or.inr (Or.inl rfl)))) dX6_keepTop_53 rfl rm_6_105 mtE93 rfl rfl rfl (Nat.le_of_ble_eq_true rfl) (Or.inl (by decide)) k11 rfl ?_
        refine go_istore (L' := [some (pvR 6 0 116), some (pvI x1), some (pvI x2), some (pvR 0 0 v1), some (pvI (σ v1 2)), some (pvI y3), some (pvI y4), some (pvI v6), some (pvI v10), none, none]) (pc' := 58) dX6_keepTop_56 rfl (Nat.le_of_ble_eq_true rfl) rfl ?_
        refine go_aload_n (pc' := 59) dX6_keepTop_58 rfl rfl (Nat.le_of_ble_eq_true rfl) ?_
        refine go_getR (k' := 7) (L0 := 0) (P' := 1) (pc' := 62) dX6_keepTop_59 rfl rf_6_37 rfl rfl (by omega) ?_
        refine go_iload (pc' := 64) dX6_keepTop_62 rfl rfl ?_
        obtain ⟨v12, k13, h⟩ := bd h
        have k13 := l_S_isSeen (d + 238) n e σ5 v10 _ k13
        refine go_call (kc := 74) (Mc := mt74) (v := some (pvI v12)) (w' := (true, n, e, σ5)) (pc' := 67) (st' := [pvI v12]) [pvR 7 0 1, pvI v10] [] (Or.inl rfl) dX6_keepTop_64 rfl rm_6_56 mtE74 rfl rfl rfl (Nat.le_of_ble_eq_true rfl) (Or.inr ⟨_, _, 1, rfl, Or.inl rfl⟩) k13 rfl ?_
        obtain ⟨j14, k15, h⟩ := bd h
        have k15J : Go none (Ev (d + 240)) mt90 83 [some (pvR 6 0 116), some (pvI x1), some (pvI x2), some (pvR 0 0 v1), some (pvI (σ v1 2)), some (pvI y3), some (pvI y4), some (pvI v6), some (pvI v10), none, none] [pvL j14.1] (true, n, e, j14.2) out := by
          refine go_lstore (L' := [some (pvR 6 0 116), some (pvI x1), some (pvI x2), some (pvR 0 0 v1), some (pvI (σ v1 2)), some (pvI y3), some (pvI y4), some (pvI v6), some (pvI v10), some (pvL j14.1), none]) (pc' := 85) dX6_keepTop_83 rfl (Nat.le_of_ble_eq_true rfl) rfl ?_
          refine go_lload (pc' := 87) dX6_keepTop_85 rfl rfl ?_
          refine go_ldc2 (pc' := 90) dX6_keepTop_87 rfl (r64_c rfl) rc_6_66 ?_
          refine go_lcmp (pc' := 91) dX6_keepTop_90 rfl ?_
          obtain ⟨j18, k19, h⟩ := bd h
          have k19J : Go none (Ev (d + 240)) mt90 108 [some (pvR 6 0 116), some (pvI x1), some (pvI x2), some (pvR 0 0 v1), some (pvI (σ v1 2)), some (pvI j18.1), some (pvI y4), some (pvI v6), some (pvI v10), some (pvL j14.1), none] [] (true, n, e, j18.2) out := by
            obtain ⟨g23, h⟩ := gd h
            refine go_iinc (L' := [some (pvR 6 0 116), some (pvI x1), some (pvI x2), some (pvR 0 0 v1), some (pvI (σ v1 2)), some (pvI j18.1), some (pvI (y4 + 1)), some (pvI v6), some (pvI v10), some (pvL j14.1), none]) (pc' := 111) dX6_keepTop_108 rfl rfl g23 rfl ?_
            refine go_goto (t := 21) dX6_keepTop_111 rfl ?_
            exact go_sub (ih j18.1 (y4 + 1) j18.2 _ h hx) ⟨Or.inr rfl, Or.inr rfl, Or.inr rfl, Or.inr rfl, Or.inr rfl, Or.inr rfl, Or.inr rfl, Or.inl rfl, Or.inl rfl, Or.inl rfl, Or.inr rfl, trivial⟩
          clear h
          have h := k19
          refine go_if_eq (t := 108) (pc' := 94) dX6_keepTop_91 rfl rfl (fun c24 => ?_) (fun c24 => ?_)
          · rw [if_pos (show (lcm j14.1 (-9223372036854775808)) = 0 from c24)] at h
            cases h
            exact k19J
          · rw [if_neg (show ¬ ((lcm j14.1 (-9223372036854775808)) = 0) from c24)] at h
            refine go_aload_n (pc' := 95) dX6_keepTop_94 rfl rfl (Nat.le_of_ble_eq_true rfl) ?_
            refine go_aload_n (pc' := 96) dX6_keepTop_95 rfl rfl (Nat.le_of_ble_eq_true rfl) ?_
            refine go_iload (pc' := 98) dX6_keepTop_96 rfl rfl ?_
            refine go_iload (pc' := 100) dX6_keepTop_98 rfl rfl ?_
            refine go_lload (pc' := 102) dX6_keepTop_100 rfl rfl ?_
            obtain ⟨v20, k21, h⟩ := bd h
            have k21 := l_R_rank (d + 239) n e j14.2 v1 y3 v6 j14.1 _ k21
            refine go_call (kc := 113) (Mc := mt113) (v := none) (w' := (true, n, e, v20)) (pc' := 105) (st' := []) [pvR 6 0 116, pvR 0 0 v1, pvI y3, pvI v6, pvL j14.1] [] (Or.inl rfl) dX6_keepTop_102 rfl rm_6_246 mtE113 rfl rfl rfl (Nat.le_of_ble_eq_true rfl) (Or.inr ⟨_, _, 116, rfl, Or.inl rfl⟩) k21 rfl ?_
            obtain ⟨g22, h⟩ := gd h
            refine go_iinc (L' := [some (pvR 6 0 116), some (pvI x1), some (pvI x2), some (pvR 0 0 v1), some (pvI (σ v1 2)), some (pvI (y3 + 1)), some (pvI y4), some (pvI v6), some (pvI v10), some (pvL j14.1), none]) (pc' := 108) dX6_keepTop_105 rfl rfl g22 rfl ?_
            cases h
            exact k19J
        clear h
        have h := k15
        refine go_if_eq (t := 80) (pc' := 70) dX6_keepTop_67 rfl rfl (fun c25 => ?_) (fun c25 => ?_)
        · rw [if_pos (show v12 = 0 from c25)] at h
          refine go_ldc2 (pc' := 83) dX6_keepTop_80 rfl (r64_c rfl) rc_6_66 ?_
          cases h
          exact k15J
        · rw [if_neg (show ¬ (v12 = 0) from c25)] at h
          refine go_aload_n (pc' := 71) dX6_keepTop_70 rfl rfl (Nat.le_of_ble_eq_true rfl) ?_
          refine go_iload (pc' := 73) dX6_keepTop_71 rfl rfl ?_
          refine go_iconst (pc' := 74) dX6_keepTop_73 rfl (r32_c rfl) ?_
          obtain ⟨v16, k17, h⟩ := bd h
          have k17 := l_R_valueOf zDeep (d + 0) n e σ5 v10 0 _ k17
          refine go_call (kc := 94) (Mc := mt94) (v := some (pvL v16.1)) (w' := (true, n, e, v16.2)) (pc' := 77) (st' := [pvL v16.1]) [pvR 6 0 116, pvI v10, pvI 0] [] (Or.inl rfl) dX6_keepTop_74 rfl rm_6_62 mtE94 rfl rfl rfl (Nat.le_of_ble_eq_true rfl) (Or.inr ⟨_, _, 116, rfl, Or.inl rfl⟩) k17 rfl ?_
          refine go_goto (t := 83) dX6_keepTop_77 rfl ?_
          cases h
          exact k15J

set_option maxRecDepth 10000 in
theorem l_R_keepTop (d : Nat) (n e : Nat) (σ : Hp) (x1 : Int) (x2 : Int) (r : Hp) (h : f_R_keepTop σ x1 x2 = some r) : Ev (d + 241) 90 [pvR 6 0 116, pvI x1, pvI x2] (true, n, e, σ) (0, none, true, n, e, r) := by
  unfold f_R_keepTop at h
  refine Ev.of mtE90 rfl rfl rfl rfl ?_
  show Go none (Ev (d + 240)) mt90 0 [some (pvR 6 0 116), some (pvI x1), some (pvI x2), none, none, none, none, none, none, none, none] [] (true, n, e, σ) (0, none, true, n, e, r)
  refine go_aload_n (pc' := 1) dX6_keepTop_0 rfl rfl (Nat.le_of_ble_eq_true rfl) ?_
  refine go_getR (k' := 7) (L0 := 0) (P' := 1) (pc' := 4) dX6_keepTop_1 rfl rf_6_37 rfl rfl (by omega) ?_
  refine go_iload_n (pc' := 5) dX6_keepTop_4 rfl rfl ?_
  obtain ⟨v1, k2, h⟩ := bd h
  have k2 := l_S_dimension (d + 239) n e σ x1 _ k2
  refine go_call (kc := 14) (Mc := mt14) (v := some (pvR 0 0 v1)) (w' := (true, n, e, σ)) (pc' := 8) (st' := [pvR 0 0 v1]) [pvR 7 0 1, pvI x1] [] (Or.inl rfl) dX6_keepTop_5 rfl rm_6_80 mtE14 rfl rfl rfl (Nat.le_of_ble_eq_true rfl) (Or.inr ⟨_, _, 1, rfl, Or.inl rfl⟩) k2 rfl ?_
  refine go_astore_n (L' := [some (pvR 6 0 116), some (pvI x1), some (pvI x2), some (pvR 0 0 v1), none, none, none, none, none, none, none]) (pc' := 9) dX6_keepTop_8 rfl (Nat.le_of_ble_eq_true rfl) (Nat.le_of_ble_eq_true rfl) rfl ?_
  refine go_aload_n (pc' := 10) dX6_keepTop_9 rfl rfl (Nat.le_of_ble_eq_true rfl) ?_
  refine go_getI (pc' := 13) dX6_keepTop_10 rfl rf_6_237 rfl ?_
  refine go_istore (L' := [some (pvR 6 0 116), some (pvI x1), some (pvI x2), some (pvR 0 0 v1), some (pvI (σ v1 2)), none, none, none, none, none, none]) (pc' := 15) dX6_keepTop_13 rfl (Nat.le_of_ble_eq_true rfl) rfl ?_
  refine go_iconst (pc' := 16) dX6_keepTop_15 rfl (r32_c rfl) ?_
  refine go_istore (L' := [some (pvR 6 0 116), some (pvI x1), some (pvI x2), some (pvR 0 0 v1), some (pvI (σ v1 2)), some (pvI 0), none, none, none, none, none]) (pc' := 18) dX6_keepTop_16 rfl (Nat.le_of_ble_eq_true rfl) rfl ?_
  refine go_iconst (pc' := 19) dX6_keepTop_18 rfl (r32_c rfl) ?_
  refine go_istore (L' := [some (pvR 6 0 116), some (pvI x1), some (pvI x2), some (pvR 0 0 v1), some (pvI (σ v1 2)), some (pvI 0), some (pvI 0), none, none, none, none]) (pc' := 21) dX6_keepTop_19 rfl (Nat.le_of_ble_eq_true rfl) rfl ?_
  obtain ⟨j29, k30, h⟩ := bd h
  refine l_R_keepTop_21 d n e σ x1 x2 v1 zFuel 0 0 σ _ k30 ?_
  refine go_aload_n (pc' := 115) dX6_keepTop_114 rfl rfl (Nat.le_of_ble_eq_true rfl) ?_
  refine go_iload (pc' := 117) dX6_keepTop_115 rfl rfl ?_
  refine go_iload_n (pc' := 118) dX6_keepTop_117 rfl rfl ?_
  refine go_imin (pc' := 121) dX6_keepTop_118 rfl rm_6_250 (Nat.le_of_ble_eq_true rfl) ?_
  refine go_putI (pc' := 124) dX6_keepTop_121 rfl rf_6_237 rfl ?_
  cases h
  exact go_vret dX6_keepTop_124 rfl rfl

set_option maxRecDepth 10000 in
theorem l_C_pick (d : Nat) (n e : Nat) (σ : Hp) (x1 : Int) (x2 : Int) (x3 : Int) (x4 : Int) (x5 : Int) (r : Nat × Int × Hp) (h : f_C_pick σ x1 x2 x3 x4 x5 = some r) : Ev (d + 242) 84 [pvR 10 0 0, pvI x1, pvI x2, pvI x3, pvI x4, pvI x5] (true, n, e, σ) (r.1, if r.1 = 0 then some (pvI r.2.1) else none, true, n, e + if r.1 = 0 then 0 else 1, r.2.2) := by
  unfold f_C_pick at h
  refine Ev.of mtE84 rfl rfl rfl rfl ?_
  show Go none (Ev (d + 241)) mt84 0 [some (pvR 10 0 0), some (pvI x1), some (pvI x2), some (pvI x3), some (pvI x4), some (pvI x5), none] [] (true, n, e, σ) (r.1, if r.1 = 0 then some (pvI r.2.1) else none, true, n, e + if r.1 = 0 then 0 else 1, r.2.2)
  refine go_aload_n (pc' := 1) dX10_pick_0 rfl rfl (Nat.le_of_ble_eq_true rfl) ?_
  refine go_iload_n (pc' := 2) dX10_pick_1 rfl rfl ?_
  obtain ⟨v1, k2, h⟩ := bd h
  by_cases c3 : v1.1 = 0
  · rw [if_pos c3] at h
    have k2 := l_C_existing (d + 239) n e σ x1 _ k2
    rw [c3] at k2
    refine go_call (kc := 13) (Mc := mt13) (v := some (pvR 0 0 v1.2)) (w' := (true, n, e, σ)) (pc' := 5) (st' := [pvR 0 0 v1.2]) [pvR 10 0 0, pvI x1] [] (Or.inl rfl) dX10_pick_2 rfl rm_10_62 mtE13 rfl rfl rfl (Nat.le_of_ble_eq_true rfl) (Or.inr ⟨_, _, 0, rfl, Or.inl rfl⟩) k2 rfl ?_
    refine go_astore (L' := [some (pvR 10 0 0), some (pvI x1), some (pvI x2), some (pvI x3), some (pvI x4), some (pvI x5), some (pvR 0 0 v1.2)]) (pc' := 7) dX10_pick_5 rfl (Nat.le_of_ble_eq_true rfl) (Nat.le_of_ble_eq_true rfl) rfl ?_
    refine go_iload_n (pc' := 8) dX10_pick_7 rfl rfl ?_
    refine go_iconst (pc' := 9) dX10_pick_8 rfl (r32_c rfl) ?_
    obtain ⟨j4, k5, h⟩ := bd h
    have k5J : j4.1 = 0 → Go none (Ev (d + 241)) mt84 18 [some (pvR 10 0 0), some (pvI x1), some (pvI x2), some (pvI x3), some (pvI x4), some (pvI x5), some (pvR 0 0 v1.2)] [] (true, n, e, σ) (r.1, if r.1 = 0 then some (pvI r.2.1) else none, true, n, e + if r.1 = 0 then 0 else 1, r.2.2) := by
      intro c54
      rw [if_pos c54] at h
      refine go_iload (pc' := 20) dX10_pick_18 rfl rfl ?_
      obtain ⟨j10, k11, h⟩ := bd h
      have k11J : j10.1 = 0 → Go none (Ev (d + 241)) mt84 29 [some (pvR 10 0 0), some (pvI x1), some (pvI x2), some (pvI x3), some (pvI x4), some (pvI x5), some (pvR 0 0 v1.2)] [] (true, n, e, σ) (r.1, if r.1 = 0 then some (pvI r.2.1) else none, true, n, e + if r.1 = 0 then 0 else 1, r.2.2) := by
        intro c52
        rw [if_pos c52] at h
        refine go_iload_n (pc' := 30) dX10_pick_29 rfl rfl ?_
        refine go_iconst (pc' := 31) dX10_pick_30 rfl (r32_c rfl) ?_
        refine go_iconst (pc' := 32) dX10_pick_31 rfl (r32_c rfl) ?_
        obtain ⟨v16, k17, h⟩ := bd h
        by_cases c18 : v16 = 0
        · rw [if_pos c18] at h
          have k17 := l_C_needRange (d + 240) n e σ x2 0 2 _ k17
          rw [c18] at k17
          refine go_call (kc := 17) (Mc := mt17) (v := none) (w' := (true, n, e, σ)) (pc' := 35) (st' := []) [pvI x2, pvI 0, pvI 2] [] (Or.inr (Or.inl rfl)) dX10_pick_32 rfl rm_10_70 mtE17 rfl rfl rfl (Nat.le_of_ble_eq_true rfl) (Or.inl (by decide)) k17 rfl ?_
          refine go_iload (pc' := 37) dX10_pick_35 rfl rfl ?_
          refine go_iconst (pc' := 38) dX10_pick_37 rfl (r32_c rfl) ?_
          refine go_bipush (pc' := 40) dX10_pick_38 rfl (r32_c rfl) (by decide) ?_
          obtain ⟨v19, k20, h⟩ := bd h
          by_cases c21 : v19 = 0
          · rw [if_pos c21] at h
            have k20 := l_C_needRange (d + 240) n e σ x5 0 12 _ k20
            rw [c21] at k20
            refine go_call (kc := 17) (Mc := mt17) (v := none) (w' := (true, n, e, σ)) (pc' := 43) (st' := []) [pvI x5, pvI 0, pvI 12] [] (Or.inr (Or.inl rfl)) dX10_pick_40 rfl rm_10_70 mtE17 rfl rfl rfl (Nat.le_of_ble_eq_true rfl) (Or.inl (by decide)) k20 rfl ?_
            refine go_iload_n (pc' := 44) dX10_pick_43 rfl rfl ?_
            refine go_iconst (pc' := 45) dX10_pick_44 rfl (r32_c rfl) ?_
            obtain ⟨j22, k23, h⟩ := bd h
            have k23J : j22.1 = 0 → Go none (Ev (d + 241)) mt84 55 [some (pvR 10 0 0), some (pvI x1), some (pvI x2), some (pvI x3), some (pvI x4), some (pvI x5), some (pvR 0 0 v1.2)] [] (true, n, e, σ) (r.1, if r.1 = 0 then some (pvI r.2.1) else none, true, n, e + if r.1 = 0 then 0 else 1, r.2.2) := by
              intro c48
              rw [if_pos c48] at h
              refine go_iload_n (pc' := 56) dX10_pick_55 rfl rfl ?_
              refine go_iconst (pc' := 57) dX10_pick_56 rfl (r32_c rfl) ?_
              obtain ⟨j28, k29, h⟩ := bd h
              have k29J : Go none (Ev (d + 241)) mt84 74 [some (pvR 10 0 0), some (pvI x1), some (pvI x2), some (pvI x3), some (pvI x4), some (pvI x5), some (pvR 0 0 v1.2)] [pvI j28] (true, n, e, σ) (r.1, if r.1 = 0 then some (pvI r.2.1) else none, true, n, e + if r.1 = 0 then 0 else 1, r.2.2) := by
                obtain ⟨v33, k34, h⟩ := bd h
                by_cases c35 : v33 = 0
                · rw [if_pos c35] at h
                  have k34 := l_C_need (d + 240) n e σ j28 _ k34
                  rw [c35] at k34
                  refine go_call (kc := 19) (Mc := mt19) (v := none) (w' := (true, n, e, σ)) (pc' := 77) (st' := []) [pvI j28] [] (Or.inr (Or.inl rfl)) dX10_pick_74 rfl rm_10_84 mtE19 rfl rfl rfl (Nat.le_of_ble_eq_true rfl) (Or.inl (by decide)) k34 rfl ?_
                  refine go_aload (pc' := 79) dX10_pick_77 rfl rfl (Nat.le_of_ble_eq_true rfl) ?_
                  refine go_iload_n (pc' := 80) dX10_pick_79 rfl rfl ?_
                  refine go_iload_n (pc' := 81) dX10_pick_80 rfl rfl ?_
                  obtain ⟨v36, k37, h⟩ := bd h
                  have k37 := l_D_pickAll (d + 236) n e σ v1.2 x2 x3 _ k37
                  refine go_call (kc := 85) (Mc := mt85) (v := none) (w' := (true, n, e, v36)) (pc' := 84) (st' := []) [pvR 0 0 v1.2, pvI x2, pvI x3] [] (Or.inl rfl) dX10_pick_81 rfl rm_10_256 mtE85 rfl rfl rfl (Nat.le_of_ble_eq_true rfl) (Or.inr ⟨_, _, v1.2, rfl, Or.inl rfl⟩) k37 rfl ?_
                  refine go_iload (pc' := 86) dX10_pick_84 rfl rfl ?_
                  obtain ⟨j38, k39, h⟩ := bd h
                  have k39J : Go none (Ev (d + 241)) mt84 108 [some (pvR 10 0 0), some (pvI x1), some (pvI x2), some (pvI x3), some (pvI x4), some (pvI x5), some (pvR 0 0 v1.2)] [] (true, n, e, j38) (r.1, if r.1 = 0 then some (pvI r.2.1) else none, true, n, e + if r.1 = 0 then 0 else 1, r.2.2) := by
                    refine go_aload (pc' := 110) dX10_pick_108 rfl rfl (Nat.le_of_ble_eq_true rfl) ?_
                    refine go_getI (pc' := 113) dX10_pick_110 rfl rf_10_262 rfl ?_
                    cases h
                    exact go_iret dX10_pick_113 rfl rfl
                  clear h
                  have h := k39
                  refine go_if_eq (t := 108) (pc' := 89) dX10_pick_86 rfl rfl (fun c44 => ?_) (fun c44 => ?_)
                  · rw [if_pos (show x5 = 0 from c44)] at h
                    cases h
                    exact k39J
                  · rw [if_neg (show ¬ (x5 = 0) from c44)] at h
                    refine go_aload_n (pc' := 90) dX10_pick_89 rfl rfl (Nat.le_of_ble_eq_true rfl) ?_
                    refine go_getR (k' := 6) (L0 := 0) (P' := 116) (pc' := 93) dX10_pick_90 rfl rf_10_51 rfl rfl (by omega) ?_
                    refine go_iload (pc' := 95) dX10_pick_93 rfl rfl ?_
                    obtain ⟨v40, k41, h⟩ := bd h
                    have k41 := l_R_begins (d + 240) n e v36 x4 _ k41
                    refine go_call (kc := 89) (Mc := mt89) (v := none) (w' := (true, n, e, v40)) (pc' := 98) (st' := []) [pvR 6 0 116, pvI x4] [] (Or.inl rfl) dX10_pick_95 rfl rm_10_242 mtE89 rfl rfl rfl (Nat.le_of_ble_eq_true rfl) (Or.inr ⟨_, _, 116, rfl, Or.inl rfl⟩) k41 rfl ?_
                    refine go_aload_n (pc' := 99) dX10_pick_98 rfl rfl (Nat.le_of_ble_eq_true rfl) ?_
                    refine go_getR (k' := 6) (L0 := 0) (P' := 116) (pc' := 102) dX10_pick_99 rfl rf_10_51 rfl rfl (by omega) ?_
                    refine go_iload_n (pc' := 103) dX10_pick_102 rfl rfl ?_
                    refine go_iload (pc' := 105) dX10_pick_103 rfl rfl ?_
                    obtain ⟨v42, k43, h⟩ := bd h
                    have k43 := l_R_keepTop (d + 0) n e v40 x1 x5 _ k43
                    refine go_call (kc := 90) (Mc := mt90) (v := none) (w' := (true, n, e, v42)) (pc' := 108) (st' := []) [pvR 6 0 116, pvI x1, pvI x5] [] (Or.inl rfl) dX10_pick_105 rfl rm_10_259 mtE90 rfl rfl rfl (Nat.le_of_ble_eq_true rfl) (Or.inr ⟨_, _, 116, rfl, Or.inl rfl⟩) k43 rfl ?_
                    cases h
                    exact k39J
                · rw [if_neg c35] at h
                  obtain ⟨g45, h⟩ := gd h
                  cases h
                  have k34 := l_C_need (d + 240) n e σ j28 _ k34
                  simp only [if_neg c35] at k34 ⊢
                  exact go_callX (kc := 19) (Mc := mt19) [pvI j28] [] (Or.inr rfl) dX10_pick_74 rm_10_84 mtE19 rfl rfl rfl (Nat.le_of_ble_eq_true rfl) (Or.inl (by decide)) rfl c35 g45 k34 rfl
              clear h
              have h := k29
              refine go_icmp_eq (t := 69) (pc' := 60) dX10_pick_57 rfl rfl (fun c46 => ?_) (fun c46 => ?_)
              · rw [if_pos (show x2 = 2 from c46)] at h
                refine go_iconst (pc' := 70) dX10_pick_69 rfl (r32_c rfl) ?_
                refine go_goto (t := 74) dX10_pick_70 rfl ?_
                cases h
                exact k29J
              · rw [if_neg (show ¬ (x2 = 2) from c46)] at h
                refine go_aload (pc' := 62) dX10_pick_60 rfl rfl (Nat.le_of_ble_eq_true rfl) ?_
                refine go_iload_n (pc' := 63) dX10_pick_62 rfl rfl ?_
                obtain ⟨v30, k31, h⟩ := bd h
                have k31 := l_D_isPlain (d + 239) n e σ v1.2 x3 _ k31
                refine go_call (kc := 18) (Mc := mt18) (v := some (pvI v30)) (w' := (true, n, e, σ)) (pc' := 66) (st' := [pvI v30]) [pvR 0 0 v1.2, pvI x3] [] (Or.inl rfl) dX10_pick_63 rfl rm_10_74 mtE18 rfl rfl rfl (Nat.le_of_ble_eq_true rfl) (Or.inr ⟨_, _, v1.2, rfl, Or.inl rfl⟩) k31 rfl ?_
                refine go_if_eq (t := 73) (pc' := 69) dX10_pick_66 rfl rfl (fun c32 => ?_) (fun c32 => ?_)
                · rw [if_pos (show v30 = 0 from c32)] at h
                  refine go_iconst (pc' := 74) dX10_pick_73 rfl (r32_c rfl) ?_
                  cases h
                  exact k29J
                · rw [if_neg (show ¬ (v30 = 0) from c32)] at h
                  refine go_iconst (pc' := 70) dX10_pick_69 rfl (r32_c rfl) ?_
                  refine go_goto (t := 74) dX10_pick_70 rfl ?_
                  cases h
                  exact k29J
            have k23X : j22.1 ≠ 0 → r = (j22.1, 0, σ) := by
              intro c48
              rw [if_neg c48] at h
              cases h
              rfl
            clear h
            have h := k23
            refine go_icmp_ne (t := 55) (pc' := 48) dX10_pick_45 rfl rfl (fun c47 => ?_) (fun c47 => ?_)
            · rw [if_pos (show x2 ≠ 2 from c47)] at h
              cases h
              exact (k23J rfl)
            · rw [if_neg (show ¬ (x2 ≠ 2) from c47)] at h
              refine go_iload_n (pc' := 49) dX10_pick_48 rfl rfl ?_
              refine go_iconst (pc' := 50) dX10_pick_49 rfl (r32_c rfl) ?_
              refine go_bipush (pc' := 52) dX10_pick_50 rfl (r32_c rfl) (by decide) ?_
              obtain ⟨v24, k25, h⟩ := bd h
              by_cases c26 : v24 = 0
              · rw [if_pos c26] at h
                have k25 := l_C_needRange (d + 240) n e σ x3 0 11 _ k25
                rw [c26] at k25
                refine go_call (kc := 17) (Mc := mt17) (v := none) (w' := (true, n, e, σ)) (pc' := 55) (st' := []) [pvI x3, pvI 0, pvI 11] [] (Or.inr (Or.inl rfl)) dX10_pick_52 rfl rm_10_70 mtE17 rfl rfl rfl (Nat.le_of_ble_eq_true rfl) (Or.inl (by decide)) k25 rfl ?_
                cases h
                exact (k23J rfl)
              · rw [if_neg c26] at h
                obtain ⟨g27, h⟩ := gd h
                cases h
                have hr : r = (v24, 0, σ) := k23X c26
                subst hr
                have k25 := l_C_needRange (d + 240) n e σ x3 0 11 _ k25
                simp only [if_neg c26] at k25 ⊢
                exact go_callX (kc := 17) (Mc := mt17) [pvI x3, pvI 0, pvI 11] [] (Or.inr rfl) dX10_pick_52 rm_10_70 mtE17 rfl rfl rfl (Nat.le_of_ble_eq_true rfl) (Or.inl (by decide)) rfl c26 g27 k25 rfl
          · rw [if_neg c21] at h
            obtain ⟨g49, h⟩ := gd h
            cases h
            have k20 := l_C_needRange (d + 240) n e σ x5 0 12 _ k20
            simp only [if_neg c21] at k20 ⊢
            exact go_callX (kc := 17) (Mc := mt17) [pvI x5, pvI 0, pvI 12] [] (Or.inr rfl) dX10_pick_40 rm_10_70 mtE17 rfl rfl rfl (Nat.le_of_ble_eq_true rfl) (Or.inl (by decide)) rfl c21 g49 k20 rfl
        · rw [if_neg c18] at h
          obtain ⟨g50, h⟩ := gd h
          cases h
          have k17 := l_C_needRange (d + 240) n e σ x2 0 2 _ k17
          simp only [if_neg c18] at k17 ⊢
          exact go_callX (kc := 17) (Mc := mt17) [pvI x2, pvI 0, pvI 2] [] (Or.inr rfl) dX10_pick_32 rm_10_70 mtE17 rfl rfl rfl (Nat.le_of_ble_eq_true rfl) (Or.inl (by decide)) rfl c18 g50 k17 rfl
      have k11X : j10.1 ≠ 0 → r = (j10.1, 0, σ) := by
        intro c52
        rw [if_neg c52] at h
        cases h
        rfl
      clear h
      have h := k11
      refine go_if_eq (t := 29) (pc' := 23) dX10_pick_20 rfl rfl (fun c51 => ?_) (fun c51 => ?_)
      · rw [if_pos (show x5 = 0 from c51)] at h
        cases h
        exact (k11J rfl)
      · rw [if_neg (show ¬ (x5 = 0) from c51)] at h
        refine go_aload_n (pc' := 24) dX10_pick_23 rfl rfl (Nat.le_of_ble_eq_true rfl) ?_
        refine go_iload (pc' := 26) dX10_pick_24 rfl rfl ?_
        obtain ⟨v12, k13, h⟩ := bd h
        by_cases c14 : v12 = 0
        · rw [if_pos c14] at h
          have k13 := l_C_needMeasure (d + 239) n e σ x4 _ k13
          rw [c14] at k13
          refine go_call (kc := 37) (Mc := mt37) (v := none) (w' := (true, n, e, σ)) (pc' := 29) (st' := []) [pvR 10 0 0, pvI x4] [] (Or.inl rfl) dX10_pick_26 rfl rm_10_193 mtE37 rfl rfl rfl (Nat.le_of_ble_eq_true rfl) (Or.inr ⟨_, _, 0, rfl, Or.inl rfl⟩) k13 rfl ?_
          cases h
          exact (k11J rfl)
        · rw [if_neg c14] at h
          obtain ⟨g15, h⟩ := gd h
          cases h
          have hr : r = (v12, 0, σ) := k11X c14
          subst hr
          have k13 := l_C_needMeasure (d + 239) n e σ x4 _ k13
          simp only [if_neg c14] at k13 ⊢
          exact go_callX (kc := 37) (Mc := mt37) [pvR 10 0 0, pvI x4] [] (Or.inl rfl) dX10_pick_26 rm_10_193 mtE37 rfl rfl rfl (Nat.le_of_ble_eq_true rfl) (Or.inr ⟨_, _, 0, rfl, Or.inl rfl⟩) rfl c14 g15 k13 rfl
    have k5X : j4.1 ≠ 0 → r = (j4.1, 0, σ) := by
      intro c54
      rw [if_neg c54] at h
      cases h
      rfl
    clear h
    have h := k5
    refine go_icmp_eq (t := 18) (pc' := 12) dX10_pick_9 rfl rfl (fun c53 => ?_) (fun c53 => ?_)
    · rw [if_pos (show x2 = 2 from c53)] at h
      cases h
      exact (k5J rfl)
    · rw [if_neg (show ¬ (x2 = 2) from c53)] at h
      refine go_aload (pc' := 14) dX10_pick_12 rfl rfl (Nat.le_of_ble_eq_true rfl) ?_
      refine go_iload_n (pc' := 15) dX10_pick_14 rfl rfl ?_
      obtain ⟨v6, k7, h⟩ := bd h
      by_cases c8 : v6 = 0
      · rw [if_pos c8] at h
        have k7 := l_C_needMember (d + 239) n e σ v1.2 x3 _ k7
        rw [c8] at k7
        refine go_call (kc := 15) (Mc := mt15) (v := none) (w' := (true, n, e, σ)) (pc' := 18) (st' := []) [pvR 0 0 v1.2, pvI x3] [] (Or.inr (Or.inl rfl)) dX10_pick_15 rfl rm_10_66 mtE15 rfl rfl rfl (Nat.le_of_ble_eq_true rfl) (Or.inl (by decide)) k7 rfl ?_
        cases h
        exact (k5J rfl)
      · rw [if_neg c8] at h
        obtain ⟨g9, h⟩ := gd h
        cases h
        have hr : r = (v6, 0, σ) := k5X c8
        subst hr
        have k7 := l_C_needMember (d + 239) n e σ v1.2 x3 _ k7
        simp only [if_neg c8] at k7 ⊢
        exact go_callX (kc := 15) (Mc := mt15) [pvR 0 0 v1.2, pvI x3] [] (Or.inr rfl) dX10_pick_15 rm_10_66 mtE15 rfl rfl rfl (Nat.le_of_ble_eq_true rfl) (Or.inl (by decide)) rfl c8 g9 k7 rfl
  · rw [if_neg c3] at h
    obtain ⟨g55, h⟩ := gd h
    cases h
    have k2 := l_C_existing (d + 239) n e σ x1 _ k2
    simp only [if_neg c3] at k2 ⊢
    exact go_callX (kc := 13) (Mc := mt13) [pvR 10 0 0, pvI x1] [] (Or.inl rfl) dX10_pick_2 rm_10_62 mtE13 rfl rfl rfl (Nat.le_of_ble_eq_true rfl) (Or.inr ⟨_, _, 0, rfl, Or.inl rfl⟩) rfl c3 g55 k2 rfl

set_option maxRecDepth 10000 in
theorem l_L_picks (d : Nat) (n e : Nat) (σ : Hp) (x2 : Int) (x3 : Int) (x4 : Int) (x5 : Int) (x6 : Int) (r : Int × Nat × Hp) (h : f_L_picks σ e x2 x3 x4 x5 x6 = some r) : Ev (d + 243) 83 [pvR 10 0 0, pvI x2, pvI x3, pvI x4, pvI x5, pvI x6] (true, n, e, σ) (0, some (pvI r.1), true, n, r.2.1, r.2.2) := by
  unfold f_L_picks at h
  refine Ev.of mtE83 rfl rfl rfl rfl ?_
  show Go none (Ev (d + 242)) mt83 0 [some (pvR 10 0 0), some (pvI x2), some (pvI x3), some (pvI x4), some (pvI x5), some (pvI x6), none] [] (true, n, e, σ) (0, some (pvI r.1), true, n, r.2.1, r.2.2)
  refine go_aload_n (pc' := 1) dL_picks_0 rfl rfl (Nat.le_of_ble_eq_true rfl) ?_
  refine go_iload_n (pc' := 2) dL_picks_1 rfl rfl ?_
  refine go_iload_n (pc' := 3) dL_picks_2 rfl rfl ?_
  refine go_iload_n (pc' := 4) dL_picks_3 rfl rfl ?_
  refine go_iload (pc' := 6) dL_picks_4 rfl rfl ?_
  refine go_iload (pc' := 8) dL_picks_6 rfl rfl ?_
  obtain ⟨v1, k2, h⟩ := bd h
  by_cases c3 : v1.1 = 0
  · rw [if_pos c3] at h
    have k2 := l_C_pick (d + 0) n e σ x2 x3 x4 x5 x6 _ k2
    rw [c3] at k2
    refine go_call (kc := 84) (Mc := mt84) (v := some (pvI v1.2.1)) (w' := (true, n, e, v1.2.2)) (pc' := 11) (st' := [pvI v1.2.1]) [pvR 10 0 0, pvI x2, pvI x3, pvI x4, pvI x5, pvI x6] [] (Or.inl rfl) dL_picks_8 rfl rm_12_46 mtE84 rfl rfl rfl (Nat.le_of_ble_eq_true rfl) (Or.inr ⟨_, _, 0, rfl, Or.inl rfl⟩) k2 rfl ?_
    cases h
    exact go_iret dL_picks_11 rfl rfl
  · rw [if_neg c3] at h
    by_cases c4 : v1.1 = 1
    · rw [if_pos c4] at h
      have k2 := l_C_pick (d + 0) n e σ x2 x3 x4 x5 x6 _ k2
      rw [c4] at k2
      refine go_callH (x := 1) (kc := 84) (Mc := mt84) (h := 12) (i := 6) (ln := 2) (w' := (true, n, (e + 1), v1.2.2)) (pc' := 14) (L' := [some (pvR 10 0 0), some (pvI x2), some (pvI x3), some (pvI x4), some (pvI x5), some (pvI x6), none]) [pvR 10 0 0, pvI x2, pvI x3, pvI x4, pvI x5, pvI x6] [] (Or.inl rfl) dL_picks_8 rm_12_46 mtE84 rfl rfl rfl (Nat.le_of_ble_eq_true rfl) (Or.inr ⟨_, _, 0, rfl, Or.inl rfl⟩) (by decide +kernel) (by decide) (by decide) (Or.inl ⟨dL_picks_12, rfl⟩) (Nat.le_of_ble_eq_true rfl) rfl rfl k2 ?_
      refine go_bipush (pc' := 16) dL_picks_14 rfl (r32_c rfl) (by decide) ?_
      cases h
      exact go_iret dL_picks_16 rfl rfl
    · rw [if_neg c4] at h
      by_cases c5 : v1.1 = 2
      · rw [if_pos c5] at h
        have k2 := l_C_pick (d + 0) n e σ x2 x3 x4 x5 x6 _ k2
        rw [c5] at k2
        refine go_callH (x := 2) (kc := 84) (Mc := mt84) (h := 17) (i := 6) (ln := 2) (w' := (true, n, (e + 1), v1.2.2)) (pc' := 19) (L' := [some (pvR 10 0 0), some (pvI x2), some (pvI x3), some (pvI x4), some (pvI x5), some (pvI x6), none]) [pvR 10 0 0, pvI x2, pvI x3, pvI x4, pvI x5, pvI x6] [] (Or.inl rfl) dL_picks_8 rm_12_46 mtE84 rfl rfl rfl (Nat.le_of_ble_eq_true rfl) (Or.inr ⟨_, _, 0, rfl, Or.inl rfl⟩) (by decide +kernel) (by decide) (by decide) (Or.inl ⟨dL_picks_17, rfl⟩) (Nat.le_of_ble_eq_true rfl) rfl rfl k2 ?_
        refine go_bipush (pc' := 21) dL_picks_19 rfl (r32_c rfl) (by decide) ?_
        cases h
        exact go_iret dL_picks_21 rfl rfl
      · rw [if_neg c5] at h
        by_cases c6 : v1.1 = 3
        · rw [if_pos c6] at h
          have k2 := l_C_pick (d + 0) n e σ x2 x3 x4 x5 x6 _ k2
          rw [c6] at k2
          refine go_callH (x := 3) (kc := 84) (Mc := mt84) (h := 22) (i := 6) (ln := 2) (w' := (true, n, (e + 1), v1.2.2)) (pc' := 24) (L' := [some (pvR 10 0 0), some (pvI x2), some (pvI x3), some (pvI x4), some (pvI x5), some (pvI x6), none]) [pvR 10 0 0, pvI x2, pvI x3, pvI x4, pvI x5, pvI x6] [] (Or.inl rfl) dL_picks_8 rm_12_46 mtE84 rfl rfl rfl (Nat.le_of_ble_eq_true rfl) (Or.inr ⟨_, _, 0, rfl, Or.inl rfl⟩) (by decide +kernel) (by decide) (by decide) (Or.inl ⟨dL_picks_22, rfl⟩) (Nat.le_of_ble_eq_true rfl) rfl rfl k2 ?_
          refine go_bipush (pc' := 26) dL_picks_24 rfl (r32_c rfl) (by decide) ?_
          cases h
          exact go_iret dL_picks_26 rfl rfl
        · rw [if_neg c6] at h
          cases h

set_option maxRecDepth 10000 in
theorem l_D_kindOf (d : Nat) (n e : Nat) (σ : Hp) (p : Nat) (x1 : Int) (r : Int) (h : f_D_kindOf σ p x1 = some r) : Ev (d + 2) 116 [pvR 0 0 p, pvI x1] (true, n, e, σ) (0, some (pvI r), true, n, e, σ) := by
  unfold f_D_kindOf at h
  refine Ev.of mtE116 rfl rfl rfl rfl ?_
  show Go none (Ev (d + 1)) mt116 0 [some (pvR 0 0 p), some (pvI x1)] [] (true, n, e, σ) (0, some (pvI r), true, n, e, σ)
  refine go_aload_n (pc' := 1) dX0_kindOf_0 rfl rfl (Nat.le_of_ble_eq_true rfl) ?_
  refine go_iload_n (pc' := 2) dX0_kindOf_1 rfl rfl ?_
  obtain ⟨v1, k2, h⟩ := bd h
  have k2 := l_D_has (d + 0) n e σ p x1 _ k2
  refine go_call (kc := 16) (Mc := mt16) (v := some (pvI v1)) (w' := (true, n, e, σ)) (pc' := 5) (st' := [pvI v1]) [pvR 0 0 p, pvI x1] [] (Or.inl rfl) dX0_kindOf_2 rfl rm_0_65 mtE16 rfl rfl rfl (Nat.le_of_ble_eq_true rfl) (Or.inr ⟨_, _, p, rfl, Or.inl rfl⟩) k2 rfl ?_
  obtain ⟨j3, k4, h⟩ := bd h
  have k4J : Go none (Ev (d + 1)) mt116 18 [some (pvR 0 0 p), some (pvI x1)] [pvI j3] (true, n, e, σ) (0, some (pvI r), true, n, e, σ) := by
    cases h
    exact go_iret dX0_kindOf_18 rfl rfl
  clear h
  have h := k4
  refine go_if_eq (t := 17) (pc' := 8) dX0_kindOf_5 rfl rfl (fun c6 => ?_) (fun c6 => ?_)
  · rw [if_pos (show v1 = 0 from c6)] at h
    refine go_iconst (pc' := 18) dX0_kindOf_17 rfl (r32_c rfl) ?_
    cases h
    exact k4J
  · rw [if_neg (show ¬ (v1 = 0) from c6)] at h
    refine go_aload_n (pc' := 9) dX0_kindOf_8 rfl rfl (Nat.le_of_ble_eq_true rfl) ?_
    refine go_getR (k' := 12) (L0 := 12) (P' := (p + 5)) (pc' := 12) dX0_kindOf_9 rfl rf_0_22 rfl rfl (by omega) ?_
    refine go_iload_n (pc' := 13) dX0_kindOf_12 rfl rfl ?_
    obtain ⟨g5, h⟩ := gd h
    refine go_iald (pc' := 14) dX0_kindOf_13 rfl g5 ?_
    refine go_goto (t := 18) dX0_kindOf_14 rfl ?_
    cases h
    exact k4J

set_option maxRecDepth 10000 in
theorem l_C_memberAt (d : Nat) (n e : Nat) (σ : Hp) (x1 : Int) (x2 : Int) (x3 : Int) (r : Nat × Int) (h : f_C_memberAt σ x1 x2 x3 = some r) : Ev (d + 3) 115 [pvR 10 0 0, pvI x1, pvI x2, pvI x3] (true, n, e, σ) (r.1, if r.1 = 0 then some (pvI r.2) else none, true, n, e + if r.1 = 0 then 0 else 1, σ) := by
  unfold f_C_memberAt at h
  refine Ev.of mtE115 rfl rfl rfl rfl ?_
  show Go none (Ev (d + 2)) mt115 0 [some (pvR 10 0 0), some (pvI x1), some (pvI x2), some (pvI x3), none] [] (true, n, e, σ) (r.1, if r.1 = 0 then some (pvI r.2) else none, true, n, e + if r.1 = 0 then 0 else 1, σ)
  refine go_aload_n (pc' := 1) dX10_memberAt_0 rfl rfl (Nat.le_of_ble_eq_true rfl) ?_
  refine go_iload_n (pc' := 2) dX10_memberAt_1 rfl rfl ?_
  obtain ⟨v1, k2, h⟩ := bd h
  by_cases c3 : v1.1 = 0
  · rw [if_pos c3] at h
    have k2 := l_C_existing (d + 0) n e σ x1 _ k2
    rw [c3] at k2
    refine go_call (kc := 13) (Mc := mt13) (v := some (pvR 0 0 v1.2)) (w' := (true, n, e, σ)) (pc' := 5) (st' := [pvR 0 0 v1.2]) [pvR 10 0 0, pvI x1] [] (Or.inl rfl) dX10_memberAt_2 rfl rm_10_62 mtE13 rfl rfl rfl (Nat.le_of_ble_eq_true rfl) (Or.inr ⟨_, _, 0, rfl, Or.inl rfl⟩) k2 rfl ?_
    refine go_astore (L' := [some (pvR 10 0 0), some (pvI x1), some (pvI x2), some (pvI x3), some (pvR 0 0 v1.2)]) (pc' := 7) dX10_memberAt_5 rfl (Nat.le_of_ble_eq_true rfl) (Nat.le_of_ble_eq_true rfl) rfl ?_
    refine go_aload (pc' := 9) dX10_memberAt_7 rfl rfl (Nat.le_of_ble_eq_true rfl) ?_
    refine go_iload_n (pc' := 10) dX10_memberAt_9 rfl rfl ?_
    obtain ⟨v4, k5, h⟩ := bd h
    by_cases c6 : v4 = 0
    · rw [if_pos c6] at h
      have k5 := l_C_needMember (d + 0) n e σ v1.2 x2 _ k5
      rw [c6] at k5
      refine go_call (kc := 15) (Mc := mt15) (v := none) (w' := (true, n, e, σ)) (pc' := 13) (st' := []) [pvR 0 0 v1.2, pvI x2] [] (Or.inr (Or.inl rfl)) dX10_memberAt_10 rfl rm_10_66 mtE15 rfl rfl rfl (Nat.le_of_ble_eq_true rfl) (Or.inl (by decide)) k5 rfl ?_
      refine go_iload_n (pc' := 14) dX10_memberAt_13 rfl rfl ?_
      refine go_iconst (pc' := 15) dX10_memberAt_14 rfl (r32_c rfl) ?_
      refine go_iconst (pc' := 16) dX10_memberAt_15 rfl (r32_c rfl) ?_
      obtain ⟨v7, k8, h⟩ := bd h
      by_cases c9 : v7 = 0
      · rw [if_pos c9] at h
        have k8 := l_C_needRange (d + 1) n e σ x3 0 4 _ k8
        rw [c9] at k8
        refine go_call (kc := 17) (Mc := mt17) (v := none) (w' := (true, n, e, σ)) (pc' := 19) (st' := []) [pvI x3, pvI 0, pvI 4] [] (Or.inr (Or.inl rfl)) dX10_memberAt_16 rfl rm_10_70 mtE17 rfl rfl rfl (Nat.le_of_ble_eq_true rfl) (Or.inl (by decide)) k8 rfl ?_
        refine go_iload_n (pc' := 20) dX10_memberAt_19 rfl rfl ?_
        by_cases c12 : x3 = 0
        · rw [if_pos c12] at h
          refine go_table (t := 52) dX10_memberAt_20 (Or.inr ⟨by omega, by omega, by rw [c12]; rfl⟩) rfl ?_
          refine go_aload (pc' := 54) dX10_memberAt_52 rfl rfl (Nat.le_of_ble_eq_true rfl) ?_
          refine go_iload_n (pc' := 55) dX10_memberAt_54 rfl rfl ?_
          obtain ⟨v10, k11, h⟩ := bd h
          have k11 := l_D_kindOf (d + 0) n e σ v1.2 x2 _ k11
          refine go_call (kc := 116) (Mc := mt116) (v := some (pvI v10)) (w' := (true, n, e, σ)) (pc' := 58) (st' := [pvI v10]) [pvR 0 0 v1.2, pvI x2] [] (Or.inl rfl) dX10_memberAt_55 rfl rm_10_153 mtE116 rfl rfl rfl (Nat.le_of_ble_eq_true rfl) (Or.inr ⟨_, _, v1.2, rfl, Or.inl rfl⟩) k11 rfl ?_
          cases h
          exact go_iret dX10_memberAt_58 rfl rfl
        · rw [if_neg c12] at h
          by_cases c15 : x3 = 1
          · rw [if_pos c15] at h
            refine go_table (t := 59) dX10_memberAt_20 (Or.inr ⟨by omega, by omega, by rw [c15]; rfl⟩) rfl ?_
            refine go_aload (pc' := 61) dX10_memberAt_59 rfl rfl (Nat.le_of_ble_eq_true rfl) ?_
            refine go_iload_n (pc' := 62) dX10_memberAt_61 rfl rfl ?_
            obtain ⟨v13, k14, h⟩ := bd h
            have k14 := l_D_parentOf (d + 0) n e σ v1.2 x2 _ k14
            refine go_call (kc := 88) (Mc := mt88) (v := some (pvI v13)) (w' := (true, n, e, σ)) (pc' := 65) (st' := [pvI v13]) [pvR 0 0 v1.2, pvI x2] [] (Or.inl rfl) dX10_memberAt_62 rfl rm_10_137 mtE88 rfl rfl rfl (Nat.le_of_ble_eq_true rfl) (Or.inr ⟨_, _, v1.2, rfl, Or.inl rfl⟩) k14 rfl ?_
            cases h
            exact go_iret dX10_memberAt_65 rfl rfl
          · rw [if_neg c15] at h
            by_cases c18 : x3 = 2
            · rw [if_pos c18] at h
              refine go_table (t := 66) dX10_memberAt_20 (Or.inr ⟨by omega, by omega, by rw [c18]; rfl⟩) rfl ?_
              refine go_aload (pc' := 68) dX10_memberAt_66 rfl rfl (Nat.le_of_ble_eq_true rfl) ?_
              refine go_iload_n (pc' := 69) dX10_memberAt_68 rfl rfl ?_
              obtain ⟨v16, k17, h⟩ := bd h
              have k17 := l_D_depthOf (d + 0) n e σ v1.2 x2 _ k17
              refine go_call (kc := 24) (Mc := mt24) (v := some (pvI v16)) (w' := (true, n, e, σ)) (pc' := 72) (st' := [pvI v16]) [pvR 0 0 v1.2, pvI x2] [] (Or.inl rfl) dX10_memberAt_69 rfl rm_10_156 mtE24 rfl rfl rfl (Nat.le_of_ble_eq_true rfl) (Or.inr ⟨_, _, v1.2, rfl, Or.inl rfl⟩) k17 rfl ?_
              cases h
              exact go_iret dX10_memberAt_72 rfl rfl
            · rw [if_neg c18] at h
              by_cases c24 : x3 = 3
              · rw [if_pos c24] at h
                refine go_table (t := 73) dX10_memberAt_20 (Or.inr ⟨by omega, by omega, by rw [c24]; rfl⟩) rfl ?_
                refine go_iload_n (pc' := 74) dX10_memberAt_73 rfl rfl ?_
                obtain ⟨j19, k20, h⟩ := bd h
                have k20J : Go none (Ev (d + 2)) mt115 92 [some (pvR 10 0 0), some (pvI x1), some (pvI x2), some (pvI x3), some (pvR 0 0 v1.2)] [pvI j19] (true, n, e, σ) (r.1, if r.1 = 0 then some (pvI r.2) else none, true, n, e + if r.1 = 0 then 0 else 1, σ) := by
                  cases h
                  exact go_iret dX10_memberAt_92 rfl rfl
                clear h
                have h := k20
                refine go_if_ne (t := 91) (pc' := 77) dX10_memberAt_74 rfl rfl (fun c23 => ?_) (fun c23 => ?_)
                · rw [if_pos (show x1 ≠ 0 from c23)] at h
                  refine go_iconst (pc' := 92) dX10_memberAt_91 rfl (r32_c rfl) ?_
                  cases h
                  exact k20J
                · rw [if_neg (show ¬ (x1 ≠ 0) from c23)] at h
                  refine go_aload_n (pc' := 78) dX10_memberAt_77 rfl rfl (Nat.le_of_ble_eq_true rfl) ?_
                  refine go_getR (k' := 7) (L0 := 0) (P' := 1) (pc' := 81) dX10_memberAt_78 rfl rf_10_12 rfl rfl (by omega) ?_
                  refine go_getR (k' := 9) (L0 := 0) (P' := 92) (pc' := 84) dX10_memberAt_81 rfl rf_10_92 rfl rfl (by omega) ?_
                  refine go_iload_n (pc' := 85) dX10_memberAt_84 rfl rfl ?_
                  obtain ⟨v21, k22, h⟩ := bd h
                  have k22 := l_TO_placeOf (d + 1) n e σ x2 _ k22
                  refine go_call (kc := 23) (Mc := mt23) (v := some (pvI v21)) (w' := (true, n, e, σ)) (pc' := 88) (st' := [pvI v21]) [pvR 9 0 92, pvI x2] [] (Or.inl rfl) dX10_memberAt_85 rfl rm_10_159 mtE23 rfl rfl rfl (Nat.le_of_ble_eq_true rfl) (Or.inr ⟨_, _, 92, rfl, Or.inl rfl⟩) k22 rfl ?_
                  refine go_goto (t := 92) dX10_memberAt_88 rfl ?_
                  cases h
                  exact k20J
              · rw [if_neg c24] at h
                refine go_table (t := 93) dX10_memberAt_20 (Or.inl ⟨by omega, rfl⟩) rfl ?_
                refine go_aload (pc' := 95) dX10_memberAt_93 rfl rfl (Nat.le_of_ble_eq_true rfl) ?_
                refine go_iload_n (pc' := 96) dX10_memberAt_95 rfl rfl ?_
                obtain ⟨v25, k26, h⟩ := bd h
                have k26 := l_D_isSeen (d + 1) n e σ v1.2 x2 _ k26
                refine go_call (kc := 29) (Mc := mt29) (v := some (pvI v25)) (w' := (true, n, e, σ)) (pc' := 99) (st' := [pvI v25]) [pvR 0 0 v1.2, pvI x2] [] (Or.inl rfl) dX10_memberAt_96 rfl rm_10_162 mtE29 rfl rfl rfl (Nat.le_of_ble_eq_true rfl) (Or.inr ⟨_, _, v1.2, rfl, Or.inl rfl⟩) k26 rfl ?_
                obtain ⟨j27, k28, h⟩ := bd h
                have k28J : Go none (Ev (d + 2)) mt115 107 [some (pvR 10 0 0), some (pvI x1), some (pvI x2), some (pvI x3), some (pvR 0 0 v1.2)] [pvI j27] (true, n, e, σ) (r.1, if r.1 = 0 then some (pvI r.2) else none, true, n, e + if r.1 = 0 then 0 else 1, σ) := by
                  cases h
                  exact go_iret dX10_memberAt_107 rfl rfl
                clear h
                have h := k28
                refine go_if_eq (t := 106) (pc' := 102) dX10_memberAt_99 rfl rfl (fun c29 => ?_) (fun c29 => ?_)
                · rw [if_pos (show v25 = 0 from c29)] at h
                  refine go_iconst (pc' := 107) dX10_memberAt_106 rfl (r32_c rfl) ?_
                  cases h
                  exact k28J
                · rw [if_neg (show ¬ (v25 = 0) from c29)] at h
                  refine go_iconst (pc' := 103) dX10_memberAt_102 rfl (r32_c rfl) ?_
                  refine go_goto (t := 107) dX10_memberAt_103 rfl ?_
                  cases h
                  exact k28J
      · rw [if_neg c9] at h
        obtain ⟨g30, h⟩ := gd h
        cases h
        have k8 := l_C_needRange (d + 1) n e σ x3 0 4 _ k8
        simp only [if_neg c9] at k8 ⊢
        exact go_callX (kc := 17) (Mc := mt17) [pvI x3, pvI 0, pvI 4] [] (Or.inr rfl) dX10_memberAt_16 rm_10_70 mtE17 rfl rfl rfl (Nat.le_of_ble_eq_true rfl) (Or.inl (by decide)) rfl c9 g30 k8 rfl
    · rw [if_neg c6] at h
      obtain ⟨g31, h⟩ := gd h
      cases h
      have k5 := l_C_needMember (d + 0) n e σ v1.2 x2 _ k5
      simp only [if_neg c6] at k5 ⊢
      exact go_callX (kc := 15) (Mc := mt15) [pvR 0 0 v1.2, pvI x2] [] (Or.inr rfl) dX10_memberAt_10 rm_10_66 mtE15 rfl rfl rfl (Nat.le_of_ble_eq_true rfl) (Or.inl (by decide)) rfl c6 g31 k5 rfl
  · rw [if_neg c3] at h
    obtain ⟨g32, h⟩ := gd h
    cases h
    have k2 := l_C_existing (d + 0) n e σ x1 _ k2
    simp only [if_neg c3] at k2 ⊢
    exact go_callX (kc := 13) (Mc := mt13) [pvR 10 0 0, pvI x1] [] (Or.inl rfl) dX10_memberAt_2 rm_10_62 mtE13 rfl rfl rfl (Nat.le_of_ble_eq_true rfl) (Or.inr ⟨_, _, 0, rfl, Or.inl rfl⟩) rfl c3 g32 k2 rfl

set_option maxRecDepth 10000 in
theorem l_R_asAsked (d : Nat) (n e : Nat) (σ : Hp) (x1 : Int) (r : Int × Hp) (h : f_R_asAsked σ x1 = some r) : Ev (d + 241) 118 [pvR 6 0 116, pvI x1] (true, n, e, σ) (0, some (pvL r.1), true, n, e, r.2) := by
  unfold f_R_asAsked at h
  refine Ev.of mtE118 rfl rfl rfl rfl ?_
  show Go none (Ev (d + 240)) mt118 0 [some (pvR 6 0 116), some (pvI x1)] [] (true, n, e, σ) (0, some (pvL r.1), true, n, e, r.2)
  refine go_aload_n (pc' := 1) dX6_asAsked_0 rfl rfl (Nat.le_of_ble_eq_true rfl) ?_
  refine go_getR (k' := 7) (L0 := 0) (P' := 1) (pc' := 4) dX6_asAsked_1 rfl rf_6_37 rfl rfl (by omega) ?_
  refine go_iload_n (pc' := 5) dX6_asAsked_4 rfl rfl ?_
  obtain ⟨v1, k2, h⟩ := bd h
  have k2 := l_S_isSeen (d + 238) n e σ x1 _ k2
  refine go_call (kc := 74) (Mc := mt74) (v := some (pvI v1)) (w' := (true, n, e, σ)) (pc' := 8) (st' := [pvI v1]) [pvR 7 0 1, pvI x1] [] (Or.inl rfl) dX6_asAsked_5 rfl rm_6_56 mtE74 rfl rfl rfl (Nat.le_of_ble_eq_true rfl) (Or.inr ⟨_, _, 1, rfl, Or.inl rfl⟩) k2 rfl ?_
  obtain ⟨j3, k4, h⟩ := bd h
  have k4J : Go none (Ev (d + 240)) mt118 23 [some (pvR 6 0 116), some (pvI x1)] [pvL j3.1] (true, n, e, j3.2) (0, some (pvL r.1), true, n, e, r.2) := by
    cases h
    exact go_lret dX6_asAsked_23 rfl rfl
  clear h
  have h := k4
  refine go_if_eq (t := 20) (pc' := 11) dX6_asAsked_8 rfl rfl (fun c7 => ?_) (fun c7 => ?_)
  · rw [if_pos (show v1 = 0 from c7)] at h
    refine go_ldc2 (pc' := 23) dX6_asAsked_20 rfl (r64_c rfl) rc_6_66 ?_
    cases h
    exact k4J
  · rw [if_neg (show ¬ (v1 = 0) from c7)] at h
    refine go_aload_n (pc' := 12) dX6_asAsked_11 rfl rfl (Nat.le_of_ble_eq_true rfl) ?_
    refine go_iload_n (pc' := 13) dX6_asAsked_12 rfl rfl ?_
    refine go_iconst (pc' := 14) dX6_asAsked_13 rfl (r32_c rfl) ?_
    obtain ⟨v5, k6, h⟩ := bd h
    have k6 := l_R_valueOf zDeep (d + 0) n e σ x1 0 _ k6
    refine go_call (kc := 94) (Mc := mt94) (v := some (pvL v5.1)) (w' := (true, n, e, v5.2)) (pc' := 17) (st' := [pvL v5.1]) [pvR 6 0 116, pvI x1, pvI 0] [] (Or.inl rfl) dX6_asAsked_14 rfl rm_6_62 mtE94 rfl rfl rfl (Nat.le_of_ble_eq_true rfl) (Or.inr ⟨_, _, 116, rfl, Or.inl rfl⟩) k6 rfl ?_
    refine go_goto (t := 23) dX6_asAsked_17 rfl ?_
    cases h
    exact k4J

set_option maxRecDepth 10000 in
theorem l_C_cellAnew (d : Nat) (n e : Nat) (σ : Hp) (x1 : Int) (x2 : Int) (x3 : Int) (x4 : Int) (r : Nat × Int × Hp) (h : f_C_cellAnew σ x1 x2 x3 x4 = some r) : Ev (d + 242) 117 [pvR 10 0 0, pvI x1, pvI x2, pvI x3, pvI x4] (true, n, e, σ) (r.1, if r.1 = 0 then some (pvL r.2.1) else none, true, n, e + if r.1 = 0 then 0 else 1, r.2.2) := by
  unfold f_C_cellAnew at h
  refine Ev.of mtE117 rfl rfl rfl rfl ?_
  show Go none (Ev (d + 241)) mt117 0 [some (pvR 10 0 0), some (pvI x1), some (pvI x2), some (pvI x3), some (pvI x4), none] [] (true, n, e, σ) (r.1, if r.1 = 0 then some (pvL r.2.1) else none, true, n, e + if r.1 = 0 then 0 else 1, r.2.2)
  refine go_aload_n (pc' := 1) dX10_cellAnew_0 rfl rfl (Nat.le_of_ble_eq_true rfl) ?_
  refine go_iload_n (pc' := 2) dX10_cellAnew_1 rfl rfl ?_
  refine go_iload_n (pc' := 3) dX10_cellAnew_2 rfl rfl ?_
  refine go_iload_n (pc' := 4) dX10_cellAnew_3 rfl rfl ?_
  refine go_iload (pc' := 6) dX10_cellAnew_4 rfl rfl ?_
  obtain ⟨v1, k2, h⟩ := bd h
  by_cases c3 : v1.1 = 0
  · rw [if_pos c3] at h
    have k2 := l_C_existingCell (d + 238) n e σ x1 x2 x3 x4 _ k2
    rw [c3] at k2
    refine go_call (kc := 59) (Mc := mt59) (v := some (pvI v1.2)) (w' := (true, n, e, σ)) (pc' := 9) (st' := [pvI v1.2]) [pvR 10 0 0, pvI x1, pvI x2, pvI x3, pvI x4] [] (Or.inl rfl) dX10_cellAnew_6 rfl rm_10_205 mtE59 rfl rfl rfl (Nat.le_of_ble_eq_true rfl) (Or.inr ⟨_, _, 0, rfl, Or.inl rfl⟩) k2 rfl ?_
    refine go_istore (L' := [some (pvR 10 0 0), some (pvI x1), some (pvI x2), some (pvI x3), some (pvI x4), some (pvI v1.2)]) (pc' := 11) dX10_cellAnew_9 rfl (Nat.le_of_ble_eq_true rfl) rfl ?_
    refine go_aload_n (pc' := 12) dX10_cellAnew_11 rfl rfl (Nat.le_of_ble_eq_true rfl) ?_
    refine go_getR (k' := 6) (L0 := 0) (P' := 116) (pc' := 15) dX10_cellAnew_12 rfl rf_10_51 rfl rfl (by omega) ?_
    refine go_iload (pc' := 17) dX10_cellAnew_15 rfl rfl ?_
    obtain ⟨v4, k5, h⟩ := bd h
    have k5 := l_R_begins (d + 240) n e σ x4 _ k5
    refine go_call (kc := 89) (Mc := mt89) (v := none) (w' := (true, n, e, v4)) (pc' := 20) (st' := []) [pvR 6 0 116, pvI x4] [] (Or.inl rfl) dX10_cellAnew_17 rfl rm_10_242 mtE89 rfl rfl rfl (Nat.le_of_ble_eq_true rfl) (Or.inr ⟨_, _, 116, rfl, Or.inl rfl⟩) k5 rfl ?_
    refine go_aload_n (pc' := 21) dX10_cellAnew_20 rfl rfl (Nat.le_of_ble_eq_true rfl) ?_
    refine go_getR (k' := 6) (L0 := 0) (P' := 116) (pc' := 24) dX10_cellAnew_21 rfl rf_10_51 rfl rfl (by omega) ?_
    refine go_iload (pc' := 26) dX10_cellAnew_24 rfl rfl ?_
    obtain ⟨v6, k7, h⟩ := bd h
    have k7 := l_R_asAsked (d + 0) n e v4 v1.2 _ k7
    refine go_call (kc := 118) (Mc := mt118) (v := some (pvL v6.1)) (w' := (true, n, e, v6.2)) (pc' := 29) (st' := [pvL v6.1]) [pvR 6 0 116, pvI v1.2] [] (Or.inl rfl) dX10_cellAnew_26 rfl rm_10_245 mtE118 rfl rfl rfl (Nat.le_of_ble_eq_true rfl) (Or.inr ⟨_, _, 116, rfl, Or.inl rfl⟩) k7 rfl ?_
    cases h
    exact go_lret dX10_cellAnew_29 rfl rfl
  · rw [if_neg c3] at h
    obtain ⟨g8, h⟩ := gd h
    cases h
    have k2 := l_C_existingCell (d + 238) n e σ x1 x2 x3 x4 _ k2
    simp only [if_neg c3] at k2 ⊢
    exact go_callX (kc := 59) (Mc := mt59) [pvR 10 0 0, pvI x1, pvI x2, pvI x3, pvI x4] [] (Or.inl rfl) dX10_cellAnew_6 rm_10_205 mtE59 rfl rfl rfl (Nat.le_of_ble_eq_true rfl) (Or.inr ⟨_, _, 0, rfl, Or.inl rfl⟩) rfl c3 g8 k2 rfl

set_option maxRecDepth 10000 in
theorem l_C_facts (d : Nat) (n e : Nat) (σ : Hp) (r : Int) (h : f_C_facts σ = some r) : Ev (d + 1) 119 [pvR 10 0 0] (true, n, e, σ) (0, some (pvI r), true, n, e, σ) := by
  unfold f_C_facts at h
  refine Ev.of mtE119 rfl rfl rfl rfl ?_
  show Go none (Ev (d + 0)) mt119 0 [some (pvR 10 0 0)] [] (true, n, e, σ) (0, some (pvI r), true, n, e, σ)
  refine go_aload_n (pc' := 1) dX10_facts_0 rfl rfl (Nat.le_of_ble_eq_true rfl) ?_
  refine go_getR (k' := 1) (L0 := 0) (P' := 101) (pc' := 4) dX10_facts_1 rfl rf_10_28 rfl rfl (by omega) ?_
  refine go_getI (pc' := 7) dX10_facts_4 rfl rf_10_214 rfl ?_
  cases h
  exact go_iret dX10_facts_7 rfl rfl

set_option maxRecDepth 10000 in
theorem l_C_kept (d : Nat) (n e : Nat) (σ : Hp) (r : Int) (h : f_C_kept σ = some r) : Ev (d + 1) 120 [pvR 10 0 0] (true, n, e, σ) (0, some (pvI r), true, n, e, σ) := by
  unfold f_C_kept at h
  refine Ev.of mtE120 rfl rfl rfl rfl ?_
  show Go none (Ev (d + 0)) mt120 0 [some (pvR 10 0 0)] [] (true, n, e, σ) (0, some (pvI r), true, n, e, σ)
  refine go_aload_n (pc' := 1) dX10_kept_0 rfl rfl (Nat.le_of_ble_eq_true rfl) ?_
  refine go_getR (k' := 3) (L0 := 0) (P' := 108) (pc' := 4) dX10_kept_1 rfl rf_10_35 rfl rfl (by omega) ?_
  refine go_getI (pc' := 7) dX10_kept_4 rfl rf_10_252 rfl ?_
  cases h
  exact go_iret dX10_kept_7 rfl rfl

set_option maxRecDepth 10000 in
theorem l_C_hits (d : Nat) (n e : Nat) (σ : Hp) (r : Int) (h : f_C_hits σ = some r) : Ev (d + 1) 121 [pvR 10 0 0] (true, n, e, σ) (0, some (pvI r), true, n, e, σ) := by
  unfold f_C_hits at h
  refine Ev.of mtE121 rfl rfl rfl rfl ?_
  show Go none (Ev (d + 0)) mt121 0 [some (pvR 10 0 0)] [] (true, n, e, σ) (0, some (pvI r), true, n, e, σ)
  refine go_aload_n (pc' := 1) dX10_hits_0 rfl rfl (Nat.le_of_ble_eq_true rfl) ?_
  refine go_getR (k' := 3) (L0 := 0) (P' := 108) (pc' := 4) dX10_hits_1 rfl rf_10_35 rfl rfl (by omega) ?_
  refine go_getI (pc' := 7) dX10_hits_4 rfl rf_10_235 rfl ?_
  cases h
  exact go_iret dX10_hits_7 rfl rfl

set_option maxRecDepth 10000 in
theorem l_L_tell_15 (d : Nat) (n : Nat) (e : Nat) (y1 : Int) {out : Out} : ∀ (F : Nat) (y3 : Int) (σ4 : Hp) (j24 : Int × Hp), f_L_tell_15 n y1 F y3 σ4 = some j24 → Go none (Ev (d + 242)) mt114 71 [some (pvR 10 0 0), some (pvR 12 5 129), some (pvR 12 60 (1048576 + n / 1048576)), some (pvI y1), some (pvI j24.1), none, none] [] (true, (n + 1048576), e, j24.2) out → Go none (Ev (d + 242)) mt114 15 [some (pvR 10 0 0), some (pvR 12 5 129), some (pvR 12 60 (1048576 + n / 1048576)), some (pvI y1), some (pvI y3), none, none] [] (true, (n + 1048576), e, σ4) out := by
  intro F
  induction F with
  | zero =>
    intro _ _ _ h
    intro _
    rw [f_L_tell_15] at h
    cases h
  | succ F ih =>
    intro y3 σ4 j24 h hx
    rw [f_L_tell_15] at h
    refine go_iload (pc' := 17) dL_tell_15 rfl rfl ?_
    refine go_aload_n (pc' := 18) dL_tell_17 rfl rfl (Nat.le_of_ble_eq_true rfl) ?_
    refine go_iload_n (pc' := 19) dL_tell_18 rfl rfl ?_
    obtain ⟨g5, h⟩ := gd h
    refine go_iald (pc' := 20) dL_tell_19 rfl g5 ?_
    refine go_icmp_ge (t := 71) (pc' := 23) dL_tell_20 rfl rfl (fun c23 => ?_) (fun c23 => ?_)
    · rw [if_pos (show (σ4 129 y1) ≤ y3 from c23)] at h
      cases h
      exact hx
    · rw [if_neg (show ¬ ((σ4 129 y1) ≤ y3) from c23)] at h
      refine go_aload_n (pc' := 24) dL_tell_23 rfl rfl (Nat.le_of_ble_eq_true rfl) ?_
      refine go_bipush (pc' := 26) dL_tell_24 rfl (r32_c rfl) (by decide) ?_
      refine go_iload_n (pc' := 27) dL_tell_26 rfl rfl ?_
      obtain ⟨g6, h⟩ := gd h
      refine go_imul (pc' := 28) dL_tell_27 rfl g6 ?_
      refine go_iload (pc' := 30) dL_tell_28 rfl rfl ?_
      obtain ⟨g7, h⟩ := gd h
      refine go_iadd (pc' := 31) dL_tell_30 rfl g7 ?_
      refine go_aload_n (pc' := 32) dL_tell_31 rfl rfl (Nat.le_of_ble_eq_true rfl) ?_
      refine go_iload_n (pc' := 33) dL_tell_32 rfl rfl ?_
      refine go_iload (pc' := 35) dL_tell_33 rfl rfl ?_
      refine go_iconst (pc' := 36) dL_tell_35 rfl (r32_c rfl) ?_
      obtain ⟨v8, k9, h⟩ := bd h
      obtain ⟨g10, h⟩ := gd h
      have k9 := l_C_memberAt (d + 239) (n + 1048576) e σ4 y1 y3 1 _ k9
      rw [g10] at k9
      refine go_call (kc := 115) (Mc := mt115) (v := some (pvI v8.2)) (w' := (true, (n + 1048576), e, σ4)) (pc' := 39) (st' := [pvI v8.2, pvI ((12 * y1) + y3), pvR 12 60 (1048576 + n / 1048576)]) [pvR 10 0 0, pvI y1, pvI y3, pvI 1] [pvI ((12 * y1) + y3), pvR 12 60 (1048576 + n / 1048576)] (Or.inl rfl) dL_tell_36 rfl rm_12_56 mtE115 rfl rfl rfl (Nat.le_of_ble_eq_true rfl) (Or.inr ⟨_, _, 0, rfl, Or.inl rfl⟩) k9 rfl ?_
      refine go_bipush (pc' := 41) dL_tell_39 rfl (r32_c rfl) (by decide) ?_
      refine go_aload_n (pc' := 42) dL_tell_41 rfl rfl (Nat.le_of_ble_eq_true rfl) ?_
      refine go_iload_n (pc' := 43) dL_tell_42 rfl rfl ?_
      refine go_iload (pc' := 45) dL_tell_43 rfl rfl ?_
      refine go_iconst (pc' := 46) dL_tell_45 rfl (r32_c rfl) ?_
      obtain ⟨v11, k12, h⟩ := bd h
      obtain ⟨g13, h⟩ := gd h
      have k12 := l_C_memberAt (d + 239) (n + 1048576) e σ4 y1 y3 2 _ k12
      rw [g13] at k12
      refine go_call (kc := 115) (Mc := mt115) (v := some (pvI v11.2)) (w' := (true, (n + 1048576), e, σ4)) (pc' := 49) (st' := [pvI v11.2, pvI 20, pvI v8.2, pvI ((12 * y1) + y3), pvR 12 60 (1048576 + n / 1048576)]) [pvR 10 0 0, pvI y1, pvI y3, pvI 2] [pvI 20, pvI v8.2, pvI ((12 * y1) + y3), pvR 12 60 (1048576 + n / 1048576)] (Or.inl rfl) dL_tell_46 rfl rm_12_56 mtE115 rfl rfl rfl (Nat.le_of_ble_eq_true rfl) (Or.inr ⟨_, _, 0, rfl, Or.inl rfl⟩) k12 rfl ?_
      obtain ⟨g14, h⟩ := gd h
      refine go_imul (pc' := 50) dL_tell_49 rfl g14 ?_
      obtain ⟨g15, h⟩ := gd h
      refine go_iadd (pc' := 51) dL_tell_50 rfl g15 ?_
      refine go_sipush (pc' := 54) dL_tell_51 rfl (r32_c rfl) (by decide) ?_
      refine go_aload_n (pc' := 55) dL_tell_54 rfl rfl (Nat.le_of_ble_eq_true rfl) ?_
      refine go_iload_n (pc' := 56) dL_tell_55 rfl rfl ?_
      refine go_iload (pc' := 58) dL_tell_56 rfl rfl ?_
      refine go_iconst (pc' := 59) dL_tell_58 rfl (r32_c rfl) ?_
      obtain ⟨v16, k17, h⟩ := bd h
      obtain ⟨g18, h⟩ := gd h
      have k17 := l_C_memberAt (d + 239) (n + 1048576) e σ4 y1 y3 4 _ k17
      rw [g18] at k17
      refine go_call (kc := 115) (Mc := mt115) (v := some (pvI v16.2)) (w' := (true, (n + 1048576), e, σ4)) (pc' := 62) (st' := [pvI v16.2, pvI 400, pvI (v8.2 + (20 * v11.2)), pvI ((12 * y1) + y3), pvR 12 60 (1048576 + n / 1048576)]) [pvR 10 0 0, pvI y1, pvI y3, pvI 4] [pvI 400, pvI (v8.2 + (20 * v11.2)), pvI ((12 * y1) + y3), pvR 12 60 (1048576 + n / 1048576)] (Or.inl rfl) dL_tell_59 rfl rm_12_56 mtE115 rfl rfl rfl (Nat.le_of_ble_eq_true rfl) (Or.inr ⟨_, _, 0, rfl, Or.inl rfl⟩) k17 rfl ?_
      obtain ⟨g19, h⟩ := gd h
      refine go_imul (pc' := 63) dL_tell_62 rfl g19 ?_
      obtain ⟨g20, h⟩ := gd h
      refine go_iadd (pc' := 64) dL_tell_63 rfl g20 ?_
      obtain ⟨g21, h⟩ := gd h
      refine go_iast (pc' := 65) dL_tell_64 rfl g21 ?_
      obtain ⟨g22, h⟩ := gd h
      refine go_iinc (L' := [some (pvR 10 0 0), some (pvR 12 5 129), some (pvR 12 60 (1048576 + n / 1048576)), some (pvI y1), some (pvI (y3 + 1)), none, none]) (pc' := 68) dL_tell_65 rfl rfl g22 rfl ?_
      refine go_goto (t := 15) dL_tell_68 rfl ?_
      exact ih (y3 + 1) (hset σ4 (1048576 + n / 1048576) ((12 * y1) + y3) ((v8.2 + (20 * v11.2)) + (400 * v16.2))) _ h hx

set_option maxRecDepth 10000 in
theorem l_L_tell_7 (d : Nat) (n : Nat) (e : Nat)  {out : Out} : ∀ (F : Nat) (y1 : Int) (σ2 : Hp) (j29 : Int × Hp), f_L_tell_7 n F y1 σ2 = some j29 → Go none (Ev (d + 242)) mt114 77 [some (pvR 10 0 0), some (pvR 12 5 129), some (pvR 12 60 (1048576 + n / 1048576)), some (pvI j29.1), none, none, none] [] (true, (n + 1048576), e, j29.2) out → Go none (Ev (d + 242)) mt114 7 [some (pvR 10 0 0), some (pvR 12 5 129), some (pvR 12 60 (1048576 + n / 1048576)), some (pvI y1), none, none, none] [] (true, (n + 1048576), e, σ2) out := by
  intro F
  induction F with
  | zero =>
    intro _ _ _ h
    intro _
    rw [f_L_tell_7] at h
    cases h
  | succ F ih =>
    intro y1 σ2 j29 h hx
    rw [f_L_tell_7] at h
    refine go_iload_n (pc' := 8) dL_tell_7 rfl rfl ?_
    refine go_iconst (pc' := 9) dL_tell_8 rfl (r32_c rfl) ?_
    refine go_icmp_ge (t := 77) (pc' := 12) dL_tell_9 rfl rfl (fun c28 => ?_) (fun c28 => ?_)
    · rw [if_pos (show 3 ≤ y1 from c28)] at h
      cases h
      exact hx
    · rw [if_neg (show ¬ (3 ≤ y1) from c28)] at h
      refine go_iconst (pc' := 13) dL_tell_12 rfl (r32_c rfl) ?_
      refine go_istore (L' := [some (pvR 10 0 0), some (pvR 12 5 129), some (pvR 12 60 (1048576 + n / 1048576)), some (pvI y1), some (pvI 0), none, none]) (pc' := 15) dL_tell_13 rfl (Nat.le_of_ble_eq_true rfl) rfl ?_
      obtain ⟨j25, k26, h⟩ := bd h
      refine l_L_tell_15 d n e y1 zFuel 0 σ2 _ k26 ?_
      obtain ⟨g27, h⟩ := gd h
      refine go_iinc (L' := [some (pvR 10 0 0), some (pvR 12 5 129), some (pvR 12 60 (1048576 + n / 1048576)), some (pvI (y1 + 1)), some (pvI j25.1), none, none]) (pc' := 74) dL_tell_71 rfl rfl g27 rfl ?_
      refine go_goto (t := 7) dL_tell_74 rfl ?_
      exact go_sub (ih (y1 + 1) j25.2 _ h hx) ⟨Or.inr rfl, Or.inr rfl, Or.inr rfl, Or.inr rfl, Or.inl rfl, Or.inr rfl, Or.inr rfl, trivial⟩

set_option maxRecDepth 10000 in
theorem l_L_tell_89 (d : Nat) (n : Nat) (e : Nat) (y32 : Int) {out : Out} : ∀ (F : Nat) (y35 : Int) (σ36 : Hp) (j61 : Int × Hp), f_L_tell_89 n y32 F y35 σ36 = some j61 → Go none (Ev (d + 242)) mt114 165 [some (pvR 10 0 0), some (pvR 12 5 129), some (pvR 12 60 (1048576 + n / 1048576)), some (pvI y32), some (pvI j61.1), none, none] [] (true, (n + 1048576), e, j61.2) out → Go none (Ev (d + 242)) mt114 89 [some (pvR 10 0 0), some (pvR 12 5 129), some (pvR 12 60 (1048576 + n / 1048576)), some (pvI y32), some (pvI y35), none, none] [] (true, (n + 1048576), e, σ36) out := by
  intro F
  induction F with
  | zero =>
    intro _ _ _ h
    intro _
    rw [f_L_tell_89] at h
    cases h
  | succ F ih =>
    intro y35 σ36 j61 h hx
    rw [f_L_tell_89] at h
    refine go_iload (pc' := 91) dL_tell_89 rfl rfl ?_
    refine go_iconst (pc' := 92) dL_tell_91 rfl (r32_c rfl) ?_
    refine go_icmp_ge (t := 165) (pc' := 95) dL_tell_92 rfl rfl (fun c60 => ?_) (fun c60 => ?_)
    · rw [if_pos (show 3 ≤ y35 from c60)] at h
      cases h
      exact hx
    · rw [if_neg (show ¬ (3 ≤ y35) from c60)] at h
      refine go_aload_n (pc' := 96) dL_tell_95 rfl rfl (Nat.le_of_ble_eq_true rfl) ?_
      refine go_iload (pc' := 98) dL_tell_96 rfl rfl ?_
      refine go_aload_n (pc' := 99) dL_tell_98 rfl rfl (Nat.le_of_ble_eq_true rfl) ?_
      refine go_iconst (pc' := 100) dL_tell_99 rfl (r32_c rfl) ?_
      obtain ⟨g37, h⟩ := gd h
      refine go_iald (pc' := 101) dL_tell_100 rfl g37 ?_
      obtain ⟨v38, k39, h⟩ := bd h
      have k39 := l_L_low (d + 241) (n + 1048576) e σ36 y35 (σ36 129 0) _ k39
      refine go_call (kc := 41) (Mc := mt41) (v := some (pvI v38)) (w' := (true, (n + 1048576), e, σ36)) (pc' := 104) (st' := [pvI v38, pvR 10 0 0]) [pvI y35, pvI (σ36 129 0)] [pvR 10 0 0] (Or.inr (Or.inl rfl)) dL_tell_101 rfl rm_12_59 mtE41 rfl rfl rfl (Nat.le_of_ble_eq_true rfl) (Or.inl (by decide)) k39 rfl ?_
      refine go_iconst (pc' := 105) dL_tell_104 rfl (r32_c rfl) ?_
      refine go_iload (pc' := 107) dL_tell_105 rfl rfl ?_
      obtain ⟨g40, h⟩ := gd h
      refine go_imul (pc' := 108) dL_tell_107 rfl g40 ?_
      refine go_aload_n (pc' := 109) dL_tell_108 rfl rfl (Nat.le_of_ble_eq_true rfl) ?_
      refine go_iconst (pc' := 110) dL_tell_109 rfl (r32_c rfl) ?_
      obtain ⟨g41, h⟩ := gd h
      refine go_iald (pc' := 111) dL_tell_110 rfl g41 ?_
      obtain ⟨v42, k43, h⟩ := bd h
      have k43 := l_L_low (d + 241) (n + 1048576) e σ36 (2 * y35) (σ36 129 1) _ k43
      refine go_call (kc := 41) (Mc := mt41) (v := some (pvI v42)) (w' := (true, (n + 1048576), e, σ36)) (pc' := 114) (st' := [pvI v42, pvI v38, pvR 10 0 0]) [pvI (2 * y35), pvI (σ36 129 1)] [pvI v38, pvR 10 0 0] (Or.inr (Or.inl rfl)) dL_tell_111 rfl rm_12_59 mtE41 rfl rfl rfl (Nat.le_of_ble_eq_true rfl) (Or.inl (by decide)) k43 rfl ?_
      refine go_iload (pc' := 116) dL_tell_114 rfl rfl ?_
      refine go_aload_n (pc' := 117) dL_tell_116 rfl rfl (Nat.le_of_ble_eq_true rfl) ?_
      refine go_iconst (pc' := 118) dL_tell_117 rfl (r32_c rfl) ?_
      obtain ⟨g44, h⟩ := gd h
      refine go_iald (pc' := 119) dL_tell_118 rfl g44 ?_
      obtain ⟨v45, k46, h⟩ := bd h
      have k46 := l_L_low (d + 241) (n + 1048576) e σ36 y35 (σ36 129 2) _ k46
      refine go_call (kc := 41) (Mc := mt41) (v := some (pvI v45)) (w' := (true, (n + 1048576), e, σ36)) (pc' := 122) (st' := [pvI v45, pvI v42, pvI v38, pvR 10 0 0]) [pvI y35, pvI (σ36 129 2)] [pvI v42, pvI v38, pvR 10 0 0] (Or.inr (Or.inl rfl)) dL_tell_119 rfl rm_12_59 mtE41 rfl rfl rfl (Nat.le_of_ble_eq_true rfl) (Or.inl (by decide)) k46 rfl ?_
      refine go_iload_n (pc' := 123) dL_tell_122 rfl rfl ?_
      obtain ⟨v47, k48, h⟩ := bd h
      obtain ⟨g49, h⟩ := gd h
      have k48 := l_C_cellAnew (d + 0) (n + 1048576) e σ36 v38 v42 v45 y32 _ k48
      rw [g49] at k48
      refine go_call (kc := 117) (Mc := mt117) (v := some (pvL v47.2.1)) (w' := (true, (n + 1048576), e, v47.2.2)) (pc' := 126) (st' := [pvL v47.2.1]) [pvR 10 0 0, pvI v38, pvI v42, pvI v45, pvI y32] [] (Or.inl rfl) dL_tell_123 rfl rm_12_64 mtE117 rfl rfl rfl (Nat.le_of_ble_eq_true rfl) (Or.inr ⟨_, _, 0, rfl, Or.inl rfl⟩) k48 rfl ?_
      refine go_lstore (L' := [some (pvR 10 0 0), some (pvR 12 5 129), some (pvR 12 60 (1048576 + n / 1048576)), some (pvI y32), some (pvI y35), some (pvL v47.2.1), none]) (pc' := 128) dL_tell_126 rfl (Nat.le_of_ble_eq_true rfl) rfl ?_
      refine go_aload_n (pc' := 129) dL_tell_128 rfl rfl (Nat.le_of_ble_eq_true rfl) ?_
      refine go_bipush (pc' := 131) dL_tell_129 rfl (r32_c rfl) (by decide) ?_
      refine go_iconst (pc' := 132) dL_tell_131 rfl (r32_c rfl) ?_
      refine go_iload_n (pc' := 133) dL_tell_132 rfl rfl ?_
      obtain ⟨g50, h⟩ := gd h
      refine go_imul (pc' := 134) dL_tell_133 rfl g50 ?_
      obtain ⟨g51, h⟩ := gd h
      refine go_iadd (pc' := 135) dL_tell_134 rfl g51 ?_
      refine go_iload (pc' := 137) dL_tell_135 rfl rfl ?_
      obtain ⟨g52, h⟩ := gd h
      refine go_iadd (pc' := 138) dL_tell_137 rfl g52 ?_
      refine go_lload (pc' := 140) dL_tell_138 rfl rfl ?_
      refine go_ldc2 (pc' := 143) dL_tell_140 rfl (r64_c rfl) rc_12_68 ?_
      refine go_lcmp (pc' := 144) dL_tell_143 rfl ?_
      obtain ⟨j53, k54, h⟩ := bd h
      have k54J : Go none (Ev (d + 242)) mt114 158 [some (pvR 10 0 0), some (pvR 12 5 129), some (pvR 12 60 (1048576 + n / 1048576)), some (pvI y32), some (pvI y35), some (pvL v47.2.1), none] [pvI j53, pvI ((36 + (3 * y32)) + y35), pvR 12 60 (1048576 + n / 1048576)] (true, (n + 1048576), e, v47.2.2) out := by
        obtain ⟨g57, h⟩ := gd h
        refine go_iast (pc' := 159) dL_tell_158 rfl g57 ?_
        obtain ⟨g58, h⟩ := gd h
        refine go_iinc (L' := [some (pvR 10 0 0), some (pvR 12 5 129), some (pvR 12 60 (1048576 + n / 1048576)), some (pvI y32), some (pvI (y35 + 1)), some (pvL v47.2.1), none]) (pc' := 162) dL_tell_159 rfl rfl g58 rfl ?_
        refine go_goto (t := 89) dL_tell_162 rfl ?_
        exact go_sub (ih (y35 + 1) (hset v47.2.2 (1048576 + n / 1048576) ((36 + (3 * y32)) + y35) j53) _ h hx) ⟨Or.inr rfl, Or.inr rfl, Or.inr rfl, Or.inr rfl, Or.inr rfl, Or.inl rfl, Or.inr rfl, trivial⟩
      clear h
      have h := k54
      refine go_if_ne (t := 151) (pc' := 147) dL_tell_144 rfl rfl (fun c59 => ?_) (fun c59 => ?_)
      · rw [if_pos (show (lcm v47.2.1 (-9223372036854775808)) ≠ 0 from c59)] at h
        refine go_lload (pc' := 153) dL_tell_151 rfl rfl ?_
        refine go_ldc2 (pc' := 156) dL_tell_153 rfl (r64_c rfl) rc_12_70 ?_
        obtain ⟨g55, h⟩ := gd h
        refine go_lrem (pc' := 157) dL_tell_156 rfl g55 ?_
        obtain ⟨g56, h⟩ := gd h
        refine go_l2i (pc' := 158) dL_tell_157 rfl g56 ?_
        cases h
        exact k54J
      · rw [if_neg (show ¬ ((lcm v47.2.1 (-9223372036854775808)) ≠ 0) from c59)] at h
        refine go_iconst (pc' := 148) dL_tell_147 rfl (r32_c rfl) ?_
        refine go_goto (t := 158) dL_tell_148 rfl ?_
        cases h
        exact k54J

set_option maxRecDepth 10000 in
theorem l_L_tell_79 (d : Nat) (n : Nat) (e : Nat)  {out : Out} : ∀ (F : Nat) (y32 : Int) (σ33 : Hp) (j66 : Int × Hp), f_L_tell_79 n F y32 σ33 = some j66 → Go none (Ev (d + 242)) mt114 171 [some (pvR 10 0 0), some (pvR 12 5 129), some (pvR 12 60 (1048576 + n / 1048576)), some (pvI j66.1), none, none, none] [] (true, (n + 1048576), e, j66.2) out → Go none (Ev (d + 242)) mt114 79 [some (pvR 10 0 0), some (pvR 12 5 129), some (pvR 12 60 (1048576 + n / 1048576)), some (pvI y32), none, none, none] [] (true, (n + 1048576), e, σ33) out := by
  intro F
  induction F with
  | zero =>
    intro _ _ _ h
    intro _
    rw [f_L_tell_79] at h
    cases h
  | succ F ih =>
    intro y32 σ33 j66 h hx
    rw [f_L_tell_79] at h
    refine go_iload_n (pc' := 80) dL_tell_79 rfl rfl ?_
    refine go_aload_n (pc' := 81) dL_tell_80 rfl rfl (Nat.le_of_ble_eq_true rfl) ?_
    refine go_iconst (pc' := 82) dL_tell_81 rfl (r32_c rfl) ?_
    obtain ⟨g34, h⟩ := gd h
    refine go_iald (pc' := 83) dL_tell_82 rfl g34 ?_
    refine go_icmp_ge (t := 171) (pc' := 86) dL_tell_83 rfl rfl (fun c65 => ?_) (fun c65 => ?_)
    · rw [if_pos (show (σ33 129 3) ≤ y32 from c65)] at h
      cases h
      exact hx
    · rw [if_neg (show ¬ ((σ33 129 3) ≤ y32) from c65)] at h
      refine go_iconst (pc' := 87) dL_tell_86 rfl (r32_c rfl) ?_
      refine go_istore (L' := [some (pvR 10 0 0), some (pvR 12 5 129), some (pvR 12 60 (1048576 + n / 1048576)), some (pvI y32), some (pvI 0), none, none]) (pc' := 89) dL_tell_87 rfl (Nat.le_of_ble_eq_true rfl) rfl ?_
      obtain ⟨j62, k63, h⟩ := bd h
      refine l_L_tell_89 d n e y32 zFuel 0 σ33 _ k63 ?_
      obtain ⟨g64, h⟩ := gd h
      refine go_iinc (L' := [some (pvR 10 0 0), some (pvR 12 5 129), some (pvR 12 60 (1048576 + n / 1048576)), some (pvI (y32 + 1)), some (pvI j62.1), none, none]) (pc' := 168) dL_tell_165 rfl rfl g64 rfl ?_
      refine go_goto (t := 79) dL_tell_168 rfl ?_
      exact go_sub (ih (y32 + 1) j62.2 _ h hx) ⟨Or.inr rfl, Or.inr rfl, Or.inr rfl, Or.inr rfl, Or.inl rfl, Or.inr rfl, Or.inr rfl, trivial⟩

set_option maxRecDepth 10000 in
theorem l_L_tell (d : Nat) (n e : Nat) (σ : Hp) (r : Nat × Nat × Hp) (h : f_L_tell σ n = some r) : Ev (d + 243) 114 [pvR 10 0 0, pvR 12 5 129] (true, n, e, σ) (0, some (pvR 12 60 r.1), true, r.2.1, e, r.2.2) := by
  unfold f_L_tell at h
  refine Ev.of mtE114 rfl rfl rfl rfl ?_
  show Go none (Ev (d + 242)) mt114 0 [some (pvR 10 0 0), some (pvR 12 5 129), none, none, none, none, none] [] (true, n, e, σ) (0, some (pvR 12 60 r.1), true, r.2.1, e, r.2.2)
  refine go_bipush (pc' := 2) dL_tell_0 rfl (r32_c rfl) (by decide) ?_
  refine go_newT (pc' := 4) dL_tell_2 rfl rfl ?_
  refine go_astore_n (L' := [some (pvR 10 0 0), some (pvR 12 5 129), some (pvR 12 60 (1048576 + n / 1048576)), none, none, none, none]) (pc' := 5) dL_tell_4 rfl (Nat.le_of_ble_eq_true rfl) (Nat.le_of_ble_eq_true rfl) rfl ?_
  refine go_iconst (pc' := 6) dL_tell_5 rfl (r32_c rfl) ?_
  refine go_istore_n (L' := [some (pvR 10 0 0), some (pvR 12 5 129), some (pvR 12 60 (1048576 + n / 1048576)), some (pvI 0), none, none, none]) (pc' := 7) dL_tell_6 rfl (Nat.le_of_ble_eq_true rfl) rfl ?_
  obtain ⟨j30, k31, h⟩ := bd h
  refine l_L_tell_7 d n e zFuel 0 (zTmp σ (1048576 + n / 1048576)) _ k31 ?_
  refine go_iconst (pc' := 78) dL_tell_77 rfl (r32_c rfl) ?_
  refine go_istore_n (L' := [some (pvR 10 0 0), some (pvR 12 5 129), some (pvR 12 60 (1048576 + n / 1048576)), some (pvI 0), none, none, none]) (pc' := 79) dL_tell_78 rfl (Nat.le_of_ble_eq_true rfl) rfl ?_
  obtain ⟨j67, k68, h⟩ := bd h
  refine l_L_tell_79 d n e zFuel 0 j30.2 _ k68 ?_
  refine go_aload_n (pc' := 172) dL_tell_171 rfl rfl (Nat.le_of_ble_eq_true rfl) ?_
  refine go_bipush (pc' := 174) dL_tell_172 rfl (r32_c rfl) (by decide) ?_
  refine go_aload_n (pc' := 175) dL_tell_174 rfl rfl (Nat.le_of_ble_eq_true rfl) ?_
  obtain ⟨v69, k70, h⟩ := bd h
  have k70 := l_C_facts (d + 241) (n + 1048576) e j67.2 _ k70
  refine go_call (kc := 119) (Mc := mt119) (v := some (pvI v69)) (w' := (true, (n + 1048576), e, j67.2)) (pc' := 178) (st' := [pvI v69, pvI 50, pvR 12 60 (1048576 + n / 1048576)]) [pvR 10 0 0] [pvI 50, pvR 12 60 (1048576 + n / 1048576)] (Or.inl rfl) dL_tell_175 rfl rm_12_72 mtE119 rfl rfl rfl (Nat.le_of_ble_eq_true rfl) (Or.inr ⟨_, _, 0, rfl, Or.inl rfl⟩) k70 rfl ?_
  obtain ⟨g71, h⟩ := gd h
  refine go_iast (pc' := 179) dL_tell_178 rfl g71 ?_
  refine go_aload_n (pc' := 180) dL_tell_179 rfl rfl (Nat.le_of_ble_eq_true rfl) ?_
  refine go_bipush (pc' := 182) dL_tell_180 rfl (r32_c rfl) (by decide) ?_
  refine go_aload_n (pc' := 183) dL_tell_182 rfl rfl (Nat.le_of_ble_eq_true rfl) ?_
  obtain ⟨v72, k73, h⟩ := bd h
  have k73 := l_C_kept (d + 241) (n + 1048576) e (hset j67.2 (1048576 + n / 1048576) 50 v69) _ k73
  refine go_call (kc := 120) (Mc := mt120) (v := some (pvI v72)) (w' := (true, (n + 1048576), e, (hset j67.2 (1048576 + n / 1048576) 50 v69))) (pc' := 186) (st' := [pvI v72, pvI 51, pvR 12 60 (1048576 + n / 1048576)]) [pvR 10 0 0] [pvI 51, pvR 12 60 (1048576 + n / 1048576)] (Or.inl rfl) dL_tell_183 rfl rm_12_76 mtE120 rfl rfl rfl (Nat.le_of_ble_eq_true rfl) (Or.inr ⟨_, _, 0, rfl, Or.inl rfl⟩) k73 rfl ?_
  obtain ⟨g74, h⟩ := gd h
  refine go_iast (pc' := 187) dL_tell_186 rfl g74 ?_
  refine go_aload_n (pc' := 188) dL_tell_187 rfl rfl (Nat.le_of_ble_eq_true rfl) ?_
  refine go_bipush (pc' := 190) dL_tell_188 rfl (r32_c rfl) (by decide) ?_
  refine go_aload_n (pc' := 191) dL_tell_190 rfl rfl (Nat.le_of_ble_eq_true rfl) ?_
  obtain ⟨v75, k76, h⟩ := bd h
  have k76 := l_C_hits (d + 241) (n + 1048576) e (hset (hset j67.2 (1048576 + n / 1048576) 50 v69) (1048576 + n / 1048576) 51 v72) _ k76
  refine go_call (kc := 121) (Mc := mt121) (v := some (pvI v75)) (w' := (true, (n + 1048576), e, (hset (hset j67.2 (1048576 + n / 1048576) 50 v69) (1048576 + n / 1048576) 51 v72))) (pc' := 194) (st' := [pvI v75, pvI 52, pvR 12 60 (1048576 + n / 1048576)]) [pvR 10 0 0] [pvI 52, pvR 12 60 (1048576 + n / 1048576)] (Or.inl rfl) dL_tell_191 rfl rm_12_79 mtE121 rfl rfl rfl (Nat.le_of_ble_eq_true rfl) (Or.inr ⟨_, _, 0, rfl, Or.inl rfl⟩) k76 rfl ?_
  obtain ⟨g77, h⟩ := gd h
  refine go_iast (pc' := 195) dL_tell_194 rfl g77 ?_
  refine go_aload_n (pc' := 196) dL_tell_195 rfl rfl (Nat.le_of_ble_eq_true rfl) ?_
  cases h
  exact go_aretA dL_tell_196 (Nat.le_of_ble_eq_true rfl) (Nat.ne_of_beq_eq_false rfl) rfl rfl

