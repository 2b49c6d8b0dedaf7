/-! ===== links: each function is what its bytecode does ===== -/
set_option maxRecDepth 10000 in
theorem l_M_formula_45 (V : Hp → Int → Int → Int → Int → Int → Option (Int × Hp)) (u : Nat) (hV : ∀ (d n e : Nat) (σ : Hp) (x1 : Int) (x2 : Int) (x3 : Int) (x4 : Int) (x5 : Int) (r : Int × Hp), V σ x1 x2 x3 x4 x5 = some r → Ev (d + u) 209 [pvR 11 0 129, pvI x1, pvI x2, pvI x3, pvI x4, pvI x5] (true, n, e, σ) (0, some (pvL r.1), true, n, e, r.2)) (d : Nat) (n : Nat) (e : Nat) (σ : Hp) (x1 : Int) (x2 : Int) (x3 : Int) (x4 : Int) (x5 : Int) (x6 : Int) (j2 : Int) {out : Out} : ∀ (F : Nat) (y7 : Int) (y8 : Int) (σ9 : Hp) (j37 : Int × Int × Hp), f_M_formula_45 V x1 x2 x3 x4 x5 x6 j2 F y7 y8 σ9 = some j37 → Go none (Ev (d + u + 5)) mt210 213 [some (pvR 11 0 129), some (pvI x1), some (pvI x2), some (pvI x3), some (pvI x4), some (pvI x5), some (pvI x6), some (pvI ((12 * x1) + j2)), some (pvI (σ 129 46)), some (pvI j37.1), some (pvI j37.2.1), none, none, none] [] (true, n, e, j37.2.2) out → Go none (Ev (d + u + 5)) mt210 45 [some (pvR 11 0 129), some (pvI x1), some (pvI x2), some (pvI x3), some (pvI x4), some (pvI x5), some (pvI x6), some (pvI ((12 * x1) + j2)), some (pvI (σ 129 46)), some (pvI y7), some (pvI y8), none, none, none] [] (true, n, e, σ9) out := by
  intro F
  induction F with
  | zero =>
    intro _ _ _ _ h
    intro _
    rw [f_M_formula_45] at h
    cases h
  | succ F ih =>
    intro y7 y8 σ9 j37 h hx
    rw [f_M_formula_45] at h
    refine go_iload (pc' := 47) dX11_formula_45 rfl rfl ?_
    refine go_bipush (pc' := 49) dX11_formula_47 rfl (r32_c rfl) (by decide) ?_
    refine go_iload (pc' := 51) dX11_formula_49 rfl rfl ?_
    obtain ⟨g10, h⟩ := gd h
    refine go_imul (pc' := 52) dX11_formula_51 rfl g10 ?_
    refine go_aload_n (pc' := 53) dX11_formula_52 rfl rfl (Nat.le_of_ble_eq_true rfl) ?_
    refine go_getR (k' := 12) (L0 := 37) (P' := 140) (pc' := 56) dX11_formula_53 rfl rf_11_42 rfl rfl (by omega) ?_
    refine go_iload (pc' := 58) dX11_formula_56 rfl rfl ?_
    obtain ⟨g11, h⟩ := gd h
    refine go_iald (pc' := 59) dX11_formula_58 rfl g11 ?_
    obtain ⟨g12, h⟩ := gd h
    refine go_iadd (pc' := 60) dX11_formula_59 rfl g12 ?_
    refine go_icmp_ge (t := 213) (pc' := 63) dX11_formula_60 rfl rfl (fun c36 => ?_) (fun c36 => ?_)
    · rw [if_pos (show ((10 * ((12 * x1) + j2)) + (σ9 140 ((12 * x1) + j2))) ≤ y8 from c36)] at h
      cases h
      exact hx
    · rw [if_neg (show ¬ (((10 * ((12 * x1) + j2)) + (σ9 140 ((12 * x1) + j2))) ≤ y8) from c36)] at h
      refine go_aload_n (pc' := 64) dX11_formula_63 rfl rfl (Nat.le_of_ble_eq_true rfl) ?_
      refine go_getR (k' := 12) (L0 := 370) (P' := 137) (pc' := 67) dX11_formula_64 rfl rf_11_33 rfl rfl (by omega) ?_
      refine go_iload (pc' := 69) dX11_formula_67 rfl rfl ?_
      obtain ⟨g13, h⟩ := gd h
      refine go_iald (pc' := 70) dX11_formula_69 rfl g13 ?_
      refine go_istore (L' := [some (pvR 11 0 129), some (pvI x1), some (pvI x2), some (pvI x3), some (pvI x4), some (pvI x5), some (pvI x6), some (pvI ((12 * x1) + j2)), some (pvI (σ 129 46)), some (pvI y7), some (pvI y8), some (pvI (σ9 137 y8)), none, none]) (pc' := 72) dX11_formula_70 rfl (Nat.le_of_ble_eq_true rfl) rfl ?_
      refine go_aload_n (pc' := 73) dX11_formula_72 rfl rfl (Nat.le_of_ble_eq_true rfl) ?_
      refine go_iload (pc' := 75) dX11_formula_73 rfl rfl ?_
      refine go_putI (pc' := 78) dX11_formula_75 rfl rf_11_300 rfl ?_
      refine go_lconst (z := 0) (pc' := 79) dX11_formula_78 rfl rfl ?_
      refine go_lstore (L' := [some (pvR 11 0 129), some (pvI x1), some (pvI x2), some (pvI x3), some (pvI x4), some (pvI x5), some (pvI x6), some (pvI ((12 * x1) + j2)), some (pvI (σ 129 46)), some (pvI y7), some (pvI y8), some (pvI (σ9 137 y8)), some (pvL 0), none]) (pc' := 81) dX11_formula_79 rfl (Nat.le_of_ble_eq_true rfl) rfl ?_
      refine go_iload (pc' := 83) dX11_formula_81 rfl rfl ?_
      obtain ⟨j14, k15, h⟩ := bd h
      have k15J : Go none (Ev (d + u + 5)) mt210 195 [some (pvR 11 0 129), some (pvI x1), some (pvI x2), some (pvI x3), some (pvI x4), some (pvI x5), some (pvI x6), some (pvI ((12 * x1) + j2)), some (pvI (σ 129 46)), some (pvI j14.1), some (pvI y8), some (pvI (σ9 137 y8)), some (pvL j14.2.1), none] [] (true, n, e, j14.2.2) out := by
        refine go_aload_n (pc' := 196) dX11_formula_195 rfl rfl (Nat.le_of_ble_eq_true rfl) ?_
        refine go_getR (k' := 13) (L0 := 3700) (P' := 166) (pc' := 199) dX11_formula_196 rfl rf_11_128 rfl rfl (by omega) ?_
        refine go_iload (pc' := 201) dX11_formula_199 rfl rfl ?_
        refine go_lload (pc' := 203) dX11_formula_201 rfl rfl ?_
        obtain ⟨g32, h⟩ := gd h
        refine go_last (pc' := 204) dX11_formula_203 rfl g32 ?_
        obtain ⟨g33, h⟩ := gd h
        refine go_iinc (L' := [some (pvR 11 0 129), some (pvI x1), some (pvI x2), some (pvI x3), some (pvI x4), some (pvI x5), some (pvI x6), some (pvI ((12 * x1) + j2)), some (pvI (σ 129 46)), some (pvI (j14.1 + 1)), some (pvI y8), some (pvI (σ9 137 y8)), some (pvL j14.2.1), none]) (pc' := 207) dX11_formula_204 rfl rfl g33 rfl ?_
        obtain ⟨g34, h⟩ := gd h
        refine go_iinc (L' := [some (pvR 11 0 129), some (pvI x1), some (pvI x2), some (pvI x3), some (pvI x4), some (pvI x5), some (pvI x6), some (pvI ((12 * x1) + j2)), some (pvI (σ 129 46)), some (pvI (j14.1 + 1)), some (pvI (y8 + 1)), some (pvI (σ9 137 y8)), some (pvL j14.2.1), none]) (pc' := 210) dX11_formula_207 rfl rfl g34 rfl ?_
        refine go_goto (t := 45) dX11_formula_210 rfl ?_
        exact go_sub (ih (j14.1 + 1) (y8 + 1) (hset j14.2.2 166 j14.1 j14.2.1) _ h hx) ⟨Or.inr rfl, Or.inr rfl, Or.inr rfl, Or.inr rfl, Or.inr rfl, Or.inr rfl, Or.inr rfl, Or.inr rfl, Or.inr rfl, Or.inr rfl, Or.inr rfl, Or.inl rfl, Or.inl rfl, Or.inr rfl, trivial⟩
      clear h
      have h := k15
      refine go_if_ne (t := 99) (pc' := 86) dX11_formula_83 rfl rfl (fun c35 => ?_) (fun c35 => ?_)
      · rw [if_pos (show (σ9 137 y8) ≠ 0 from c35)] at h
        refine go_iload (pc' := 101) dX11_formula_99 rfl rfl ?_
        refine go_iconst (pc' := 102) dX11_formula_101 rfl (r32_c rfl) ?_
        refine go_icmp_ne (t := 137) (pc' := 105) dX11_formula_102 rfl rfl (fun c30 => ?_) (fun c30 => ?_)
        · rw [if_pos (show (σ9 137 y8) ≠ 1 from c30)] at h
          refine go_iload (pc' := 139) dX11_formula_137 rfl rfl ?_
          refine go_iconst (pc' := 140) dX11_formula_139 rfl (r32_c rfl) ?_
          refine go_icmp_ne (t := 168) (pc' := 143) dX11_formula_140 rfl rfl (fun c25 => ?_) (fun c25 => ?_)
          · rw [if_pos (show (σ9 137 y8) ≠ 2 from c25)] at h
            obtain ⟨g16, h⟩ := gd h
            refine go_iinc (L' := [some (pvR 11 0 129), some (pvI x1), some (pvI x2), some (pvI x3), some (pvI x4), some (pvI x5), some (pvI x6), some (pvI ((12 * x1) + j2)), some (pvI (σ 129 46)), some (pvI (y7 + (-2))), some (pvI y8), some (pvI (σ9 137 y8)), some (pvL 0), none]) (pc' := 171) dX11_formula_168 rfl rfl g16 rfl ?_
            refine go_aload_n (pc' := 172) dX11_formula_171 rfl rfl (Nat.le_of_ble_eq_true rfl) ?_
            refine go_iload (pc' := 174) dX11_formula_172 rfl rfl ?_
            refine go_aload_n (pc' := 175) dX11_formula_174 rfl rfl (Nat.le_of_ble_eq_true rfl) ?_
            refine go_getR (k' := 13) (L0 := 3700) (P' := 166) (pc' := 178) dX11_formula_175 rfl rf_11_128 rfl rfl (by omega) ?_
            refine go_iload (pc' := 180) dX11_formula_178 rfl rfl ?_
            obtain ⟨g17, h⟩ := gd h
            refine go_lald (pc' := 181) dX11_formula_180 rfl g17 ?_
            refine go_aload_n (pc' := 182) dX11_formula_181 rfl rfl (Nat.le_of_ble_eq_true rfl) ?_
            refine go_getR (k' := 13) (L0 := 3700) (P' := 166) (pc' := 185) dX11_formula_182 rfl rf_11_128 rfl rfl (by omega) ?_
            refine go_iload (pc' := 187) dX11_formula_185 rfl rfl ?_
            refine go_iconst (pc' := 188) dX11_formula_187 rfl (r32_c rfl) ?_
            obtain ⟨g18, h⟩ := gd h
            refine go_iadd (pc' := 189) dX11_formula_188 rfl g18 ?_
            obtain ⟨g19, h⟩ := gd h
            refine go_lald (pc' := 190) dX11_formula_189 rfl g19 ?_
            obtain ⟨v20, k21, h⟩ := bd h
            have k21 := l_M_joined (d + u + 2) n e (hset σ9 129 46 y7) (σ9 137 y8) ((hset σ9 129 46 y7) 166 (y7 + (-2))) ((hset σ9 129 46 y7) 166 ((y7 + (-2)) + 1)) _ k21
            refine go_call (kc := 215) (Mc := mt215) (v := some (pvL v20)) (w' := (true, n, e, (hset σ9 129 46 y7))) (pc' := 193) (st' := [pvL v20]) [pvR 11 0 129, pvI (σ9 137 y8), pvL ((hset σ9 129 46 y7) 166 (y7 + (-2))), pvL ((hset σ9 129 46 y7) 166 ((y7 + (-2)) + 1))] [] (Or.inl rfl) dX11_formula_190 rfl rm_11_296 mtE215 rfl rfl rfl (Nat.le_of_ble_eq_true rfl) (Or.inr ⟨_, _, 129, rfl, Or.inl rfl⟩) k21 rfl ?_
            refine go_lstore (L' := [some (pvR 11 0 129), some (pvI x1), some (pvI x2), some (pvI x3), some (pvI x4), some (pvI x5), some (pvI x6), some (pvI ((12 * x1) + j2)), some (pvI (σ 129 46)), some (pvI (y7 + (-2))), some (pvI y8), some (pvI (σ9 137 y8)), some (pvL v20), none]) (pc' := 195) dX11_formula_193 rfl (Nat.le_of_ble_eq_true rfl) rfl ?_
            cases h
            exact k15J
          · rw [if_neg (show ¬ ((σ9 137 y8) ≠ 2) from c25)] at h
            refine go_aload_n (pc' := 144) dX11_formula_143 rfl rfl (Nat.le_of_ble_eq_true rfl) ?_
            refine go_iload_n (pc' := 145) dX11_formula_144 rfl rfl ?_
            refine go_aload_n (pc' := 146) dX11_formula_145 rfl rfl (Nat.le_of_ble_eq_true rfl) ?_
            refine go_getR (k' := 12) (L0 := 370) (P' := 138) (pc' := 149) dX11_formula_146 rfl rf_11_36 rfl rfl (by omega) ?_
            refine go_iload (pc' := 151) dX11_formula_149 rfl rfl ?_
            obtain ⟨g22, h⟩ := gd h
            refine go_iald (pc' := 152) dX11_formula_151 rfl g22 ?_
            refine go_iload_n (pc' := 153) dX11_formula_152 rfl rfl ?_
            refine go_iload_n (pc' := 154) dX11_formula_153 rfl rfl ?_
            refine go_iload (pc' := 156) dX11_formula_154 rfl rfl ?_
            refine go_iload (pc' := 158) dX11_formula_156 rfl rfl ?_
            refine go_iload (pc' := 160) dX11_formula_158 rfl rfl ?_
            obtain ⟨v23, k24, h⟩ := bd h
            have k24 := (by have z := l_M_date V u hV (d + 1) n e (hset σ9 129 46 y7) x1 ((hset σ9 129 46 y7) 138 y8) x2 x3 x4 x5 x6 _ k24; rwa [show d + 1 + u + 4 = d + u + 5 by omega] at z)
            refine go_call (kc := 214) (Mc := mt214) (v := some (pvL v23.1)) (w' := (true, n, e, v23.2)) (pc' := 163) (st' := [pvL v23.1]) [pvR 11 0 129, pvI x1, pvI ((hset σ9 129 46 y7) 138 y8), pvI x2, pvI x3, pvI x4, pvI x5, pvI x6] [] (Or.inl rfl) dX11_formula_160 rfl rm_11_307 mtE214 rfl rfl rfl (Nat.le_of_ble_eq_true rfl) (Or.inr ⟨_, _, 129, rfl, Or.inl rfl⟩) k24 rfl ?_
            refine go_lstore (L' := [some (pvR 11 0 129), some (pvI x1), some (pvI x2), some (pvI x3), some (pvI x4), some (pvI x5), some (pvI x6), some (pvI ((12 * x1) + j2)), some (pvI (σ 129 46)), some (pvI y7), some (pvI y8), some (pvI (σ9 137 y8)), some (pvL v23.1), none]) (pc' := 165) dX11_formula_163 rfl (Nat.le_of_ble_eq_true rfl) rfl ?_
            refine go_goto (t := 195) dX11_formula_165 rfl ?_
            cases h
            exact k15J
        · rw [if_neg (show ¬ ((σ9 137 y8) ≠ 1) from c30)] at h
          refine go_aload_n (pc' := 106) dX11_formula_105 rfl rfl (Nat.le_of_ble_eq_true rfl) ?_
          refine go_iload_n (pc' := 107) dX11_formula_106 rfl rfl ?_
          refine go_aload_n (pc' := 108) dX11_formula_107 rfl rfl (Nat.le_of_ble_eq_true rfl) ?_
          refine go_getR (k' := 12) (L0 := 370) (P' := 138) (pc' := 111) dX11_formula_108 rfl rf_11_36 rfl rfl (by omega) ?_
          refine go_iload (pc' := 113) dX11_formula_111 rfl rfl ?_
          obtain ⟨g26, h⟩ := gd h
          refine go_iald (pc' := 114) dX11_formula_113 rfl g26 ?_
          refine go_aload_n (pc' := 115) dX11_formula_114 rfl rfl (Nat.le_of_ble_eq_true rfl) ?_
          refine go_getR (k' := 12) (L0 := 370) (P' := 139) (pc' := 118) dX11_formula_115 rfl rf_11_39 rfl rfl (by omega) ?_
          refine go_iload (pc' := 120) dX11_formula_118 rfl rfl ?_
          obtain ⟨g27, h⟩ := gd h
          refine go_iald (pc' := 121) dX11_formula_120 rfl g27 ?_
          refine go_iload_n (pc' := 122) dX11_formula_121 rfl rfl ?_
          refine go_iload_n (pc' := 123) dX11_formula_122 rfl rfl ?_
          refine go_iload (pc' := 125) dX11_formula_123 rfl rfl ?_
          refine go_iload (pc' := 127) dX11_formula_125 rfl rfl ?_
          refine go_iload (pc' := 129) dX11_formula_127 rfl rfl ?_
          obtain ⟨v28, k29, h⟩ := bd h
          have k29 := (by have z := l_M_look V u hV (d + 0) n e (hset σ9 129 46 y7) x1 ((hset σ9 129 46 y7) 138 y8) ((hset σ9 129 46 y7) 139 y8) x2 x3 x4 x5 x6 _ k29; rwa [show d + 0 + u + 5 = d + u + 5 by omega] at z)
          refine go_call (kc := 211) (Mc := mt211) (v := some (pvL v28.1)) (w' := (true, n, e, v28.2)) (pc' := 132) (st' := [pvL v28.1]) [pvR 11 0 129, pvI x1, pvI ((hset σ9 129 46 y7) 138 y8), pvI ((hset σ9 129 46 y7) 139 y8), pvI x2, pvI x3, pvI x4, pvI x5, pvI x6] [] (Or.inl rfl) dX11_formula_129 rfl rm_11_303 mtE211 rfl rfl rfl (Nat.le_of_ble_eq_true rfl) (Or.inr ⟨_, _, 129, rfl, Or.inl rfl⟩) k29 rfl ?_
          refine go_lstore (L' := [some (pvR 11 0 129), some (pvI x1), some (pvI x2), some (pvI x3), some (pvI x4), some (pvI x5), some (pvI x6), some (pvI ((12 * x1) + j2)), some (pvI (σ 129 46)), some (pvI y7), some (pvI y8), some (pvI (σ9 137 y8)), some (pvL v28.1), none]) (pc' := 134) dX11_formula_132 rfl (Nat.le_of_ble_eq_true rfl) rfl ?_
          refine go_goto (t := 195) dX11_formula_134 rfl ?_
          cases h
          exact k15J
      · rw [if_neg (show ¬ ((σ9 137 y8) ≠ 0) from c35)] at h
        refine go_aload_n (pc' := 87) dX11_formula_86 rfl rfl (Nat.le_of_ble_eq_true rfl) ?_
        refine go_getR (k' := 12) (L0 := 370) (P' := 138) (pc' := 90) dX11_formula_87 rfl rf_11_36 rfl rfl (by omega) ?_
        refine go_iload (pc' := 92) dX11_formula_90 rfl rfl ?_
        obtain ⟨g31, h⟩ := gd h
        refine go_iald (pc' := 93) dX11_formula_92 rfl g31 ?_
        refine go_i2l (pc' := 94) dX11_formula_93 rfl ?_
        refine go_lstore (L' := [some (pvR 11 0 129), some (pvI x1), some (pvI x2), some (pvI x3), some (pvI x4), some (pvI x5), some (pvI x6), some (pvI ((12 * x1) + j2)), some (pvI (σ 129 46)), some (pvI y7), some (pvI y8), some (pvI (σ9 137 y8)), some (pvL ((hset σ9 129 46 y7) 138 y8)), none]) (pc' := 96) dX11_formula_94 rfl (Nat.le_of_ble_eq_true rfl) rfl ?_
        refine go_goto (t := 195) dX11_formula_96 rfl ?_
        cases h
        exact k15J

set_option maxRecDepth 10000 in
theorem l_M_formula (V : Hp → Int → Int → Int → Int → Int → Option (Int × Hp)) (u : Nat) (hV : ∀ (d n e : Nat) (σ : Hp) (x1 : Int) (x2 : Int) (x3 : Int) (x4 : Int) (x5 : Int) (r : Int × Hp), V σ x1 x2 x3 x4 x5 = some r → Ev (d + u) 209 [pvR 11 0 129, pvI x1, pvI x2, pvI x3, pvI x4, pvI x5] (true, n, e, σ) (0, some (pvL r.1), true, n, e, r.2)) (d : Nat) (n e : Nat) (σ : Hp) (x1 : Int) (x2 : Int) (x3 : Int) (x4 : Int) (x5 : Int) (x6 : Int) (r : Int × Hp) (h : f_M_formula V σ x1 x2 x3 x4 x5 x6 = some r) : Ev (d + u + 6) 210 [pvR 11 0 129, pvI x1, pvI x2, pvI x3, pvI x4, pvI x5, pvI x6] (true, n, e, σ) (0, some (pvL r.1), true, n, e, r.2) := by
  unfold f_M_formula at h
  refine Ev.of mtE210 rfl rfl rfl rfl ?_
  show Go none (Ev (d + u + 5)) mt210 0 [some (pvR 11 0 129), some (pvI x1), some (pvI x2), some (pvI x3), some (pvI x4), some (pvI x5), some (pvI x6), none, none, none, none, none, none, none] [] (true, n, e, σ) (0, some (pvL r.1), true, n, e, r.2)
  refine go_bipush (pc' := 2) dX11_formula_0 rfl (r32_c rfl) (by decide) ?_
  refine go_iload_n (pc' := 3) dX11_formula_2 rfl rfl ?_
  obtain ⟨g1, h⟩ := gd h
  refine go_imul (pc' := 4) dX11_formula_3 rfl g1 ?_
  refine go_iload_n (pc' := 5) dX11_formula_4 rfl rfl ?_
  obtain ⟨j2, k3, h⟩ := bd h
  have k3J : Go none (Ev (d + u + 5)) mt210 23 [some (pvR 11 0 129), some (pvI x1), some (pvI x2), some (pvI x3), some (pvI x4), some (pvI x5), some (pvI x6), none, none, none, none, none, none, none] [pvI j2, pvI (12 * x1)] (true, n, e, σ) (0, some (pvL r.1), true, n, e, r.2) := by
    obtain ⟨g5, h⟩ := gd h
    refine go_iadd (pc' := 24) dX11_formula_23 rfl g5 ?_
    refine go_istore (L' := [some (pvR 11 0 129), some (pvI x1), some (pvI x2), some (pvI x3), some (pvI x4), some (pvI x5), some (pvI x6), some (pvI ((12 * x1) + j2)), none, none, none, none, none, none]) (pc' := 26) dX11_formula_24 rfl (Nat.le_of_ble_eq_true rfl) rfl ?_
    refine go_aload_n (pc' := 27) dX11_formula_26 rfl rfl (Nat.le_of_ble_eq_true rfl) ?_
    refine go_getI (pc' := 30) dX11_formula_27 rfl rf_11_300 rfl ?_
    refine go_istore (L' := [some (pvR 11 0 129), some (pvI x1), some (pvI x2), some (pvI x3), some (pvI x4), some (pvI x5), some (pvI x6), some (pvI ((12 * x1) + j2)), some (pvI (σ 129 46)), none, none, none, none, none]) (pc' := 32) dX11_formula_30 rfl (Nat.le_of_ble_eq_true rfl) rfl ?_
    refine go_aload_n (pc' := 33) dX11_formula_32 rfl rfl (Nat.le_of_ble_eq_true rfl) ?_
    refine go_getI (pc' := 36) dX11_formula_33 rfl rf_11_300 rfl ?_
    refine go_istore (L' := [some (pvR 11 0 129), some (pvI x1), some (pvI x2), some (pvI x3), some (pvI x4), some (pvI x5), some (pvI x6), some (pvI ((12 * x1) + j2)), some (pvI (σ 129 46)), some (pvI (σ 129 46)), none, none, none, none]) (pc' := 38) dX11_formula_36 rfl (Nat.le_of_ble_eq_true rfl) rfl ?_
    refine go_bipush (pc' := 40) dX11_formula_38 rfl (r32_c rfl) (by decide) ?_
    refine go_iload (pc' := 42) dX11_formula_40 rfl rfl ?_
    obtain ⟨g6, h⟩ := gd h
    refine go_imul (pc' := 43) dX11_formula_42 rfl g6 ?_
    refine go_istore (L' := [some (pvR 11 0 129), some (pvI x1), some (pvI x2), some (pvI x3), some (pvI x4), some (pvI x5), some (pvI x6), some (pvI ((12 * x1) + j2)), some (pvI (σ 129 46)), some (pvI (σ 129 46)), some (pvI (10 * ((12 * x1) + j2))), none, none, none]) (pc' := 45) dX11_formula_43 rfl (Nat.le_of_ble_eq_true rfl) rfl ?_
    obtain ⟨j38, k39, h⟩ := bd h
    refine l_M_formula_45 V u hV d n e σ x1 x2 x3 x4 x5 x6 j2 zFuel (σ 129 46) (10 * ((12 * x1) + j2)) σ _ k39 ?_
    refine go_aload_n (pc' := 214) dX11_formula_213 rfl rfl (Nat.le_of_ble_eq_true rfl) ?_
    refine go_iload (pc' := 216) dX11_formula_214 rfl rfl ?_
    refine go_putI (pc' := 219) dX11_formula_216 rfl rf_11_300 rfl ?_
    refine go_aload_n (pc' := 220) dX11_formula_219 rfl rfl (Nat.le_of_ble_eq_true rfl) ?_
    refine go_getR (k' := 13) (L0 := 3700) (P' := 166) (pc' := 223) dX11_formula_220 rfl rf_11_128 rfl rfl (by omega) ?_
    refine go_iload (pc' := 225) dX11_formula_223 rfl rfl ?_
    obtain ⟨g40, h⟩ := gd h
    refine go_lald (pc' := 226) dX11_formula_225 rfl g40 ?_
    cases h
    exact go_lret dX11_formula_226 rfl rfl
  clear h
  have h := k3
  refine go_if_ne (t := 12) (pc' := 8) dX11_formula_5 rfl rfl (fun c41 => ?_) (fun c41 => ?_)
  · rw [if_pos (show x1 ≠ 0 from c41)] at h
    refine go_iload_n (pc' := 13) dX11_formula_12 rfl rfl ?_
    refine go_iconst (pc' := 14) dX11_formula_13 rfl (r32_c rfl) ?_
    refine go_icmp_ne (t := 21) (pc' := 17) dX11_formula_14 rfl rfl (fun c4 => ?_) (fun c4 => ?_)
    · rw [if_pos (show x1 ≠ 1 from c4)] at h
      refine go_iload (pc' := 23) dX11_formula_21 rfl rfl ?_
      cases h
      exact k3J
    · rw [if_neg (show ¬ (x1 ≠ 1) from c4)] at h
      refine go_iload_n (pc' := 18) dX11_formula_17 rfl rfl ?_
      refine go_goto (t := 23) dX11_formula_18 rfl ?_
      cases h
      exact k3J
  · rw [if_neg (show ¬ (x1 ≠ 0) from c41)] at h
    refine go_iload_n (pc' := 9) dX11_formula_8 rfl rfl ?_
    refine go_goto (t := 23) dX11_formula_9 rfl ?_
    cases h
    exact k3J

set_option maxRecDepth 10000 in
theorem l_M_isNothing (d : Nat) (n e : Nat) (σ : Hp) (x1 : Int) (x2 : Int) (x3 : Int) (x4 : Int) (r : Int) (h : f_M_isNothing σ x1 x2 x3 x4 = some r) : Ev (d + 4) 217 [pvR 11 0 129, pvI x1, pvI x2, pvI x3, pvI x4] (true, n, e, σ) (0, some (pvI r), true, n, e, σ) := by
  unfold f_M_isNothing at h
  refine Ev.of mtE217 rfl rfl rfl rfl ?_
  show Go none (Ev (d + 3)) mt217 0 [some (pvR 11 0 129), some (pvI x1), some (pvI x2), some (pvI x3), some (pvI x4), none, none] [] (true, n, e, σ) (0, some (pvI r), true, n, e, σ)
  refine go_aload_n (pc' := 1) dX11_isNothing_0 rfl rfl (Nat.le_of_ble_eq_true rfl) ?_
  refine go_iconst (pc' := 2) dX11_isNothing_1 rfl (r32_c rfl) ?_
  refine go_iload_n (pc' := 3) dX11_isNothing_2 rfl rfl ?_
  obtain ⟨v1, k2, h⟩ := bd h
  have k2 := l_M_isPlain (d + 2) n e σ 0 x1 _ k2
  refine go_call (kc := 173) (Mc := mt173) (v := some (pvI v1)) (w' := (true, n, e, σ)) (pc' := 6) (st' := [pvI v1]) [pvR 11 0 129, pvI 0, pvI x1] [] (Or.inl rfl) dX11_isNothing_3 rfl rm_11_180 mtE173 rfl rfl rfl (Nat.le_of_ble_eq_true rfl) (Or.inr ⟨_, _, 129, rfl, Or.inl rfl⟩) k2 rfl ?_
  obtain ⟨j3, k4, h⟩ := bd h
  have k4J : Go none (Ev (d + 3)) mt217 32 [some (pvR 11 0 129), some (pvI x1), some (pvI x2), some (pvI x3), some (pvI x4), none, none] [pvI j3] (true, n, e, σ) (0, some (pvI r), true, n, e, σ) := by
    refine go_istore (L' := [some (pvR 11 0 129), some (pvI x1), some (pvI x2), some (pvI x3), some (pvI x4), some (pvI j3), none]) (pc' := 34) dX11_isNothing_32 rfl (Nat.le_of_ble_eq_true rfl) rfl ?_
    refine go_aload_n (pc' := 35) dX11_isNothing_34 rfl rfl (Nat.le_of_ble_eq_true rfl) ?_
    refine go_iconst (pc' := 36) dX11_isNothing_35 rfl (r32_c rfl) ?_
    refine go_iload_n (pc' := 37) dX11_isNothing_36 rfl rfl ?_
    obtain ⟨v10, k11, h⟩ := bd h
    have k11 := l_M_isPlain (d + 2) n e σ 1 x2 _ k11
    refine go_call (kc := 173) (Mc := mt173) (v := some (pvI v10)) (w' := (true, n, e, σ)) (pc' := 40) (st' := [pvI v10]) [pvR 11 0 129, pvI 1, pvI x2] [] (Or.inl rfl) dX11_isNothing_37 rfl rm_11_180 mtE173 rfl rfl rfl (Nat.le_of_ble_eq_true rfl) (Or.inr ⟨_, _, 129, rfl, Or.inl rfl⟩) k11 rfl ?_
    obtain ⟨j12, k13, h⟩ := bd h
    have k13J : Go none (Ev (d + 3)) mt217 68 [some (pvR 11 0 129), some (pvI x1), some (pvI x2), some (pvI x3), some (pvI x4), some (pvI j3), none] [pvI j12] (true, n, e, σ) (0, some (pvI r), true, n, e, σ) := by
      refine go_istore (L' := [some (pvR 11 0 129), some (pvI x1), some (pvI x2), some (pvI x3), some (pvI x4), some (pvI j3), some (pvI j12)]) (pc' := 70) dX11_isNothing_68 rfl (Nat.le_of_ble_eq_true rfl) rfl ?_
      refine go_iload (pc' := 72) dX11_isNothing_70 rfl rfl ?_
      obtain ⟨j20, k21, h⟩ := bd h
      have k21J : Go none (Ev (d + 3)) mt217 114 [some (pvR 11 0 129), some (pvI x1), some (pvI x2), some (pvI x3), some (pvI x4), some (pvI j3), some (pvI j12)] [pvI j20] (true, n, e, σ) (0, some (pvI r), true, n, e, σ) := by
        obtain ⟨g32, h⟩ := gd h
        cases h
        exact go_zret dX11_isNothing_114 rfl g32 rfl
      clear h
      have h := k21
      refine go_if_ne (t := 109) (pc' := 75) dX11_isNothing_72 rfl rfl (fun c33 => ?_) (fun c33 => ?_)
      · rw [if_pos (show j3 ≠ 0 from c33)] at h
        refine go_iconst (pc' := 110) dX11_isNothing_109 rfl (r32_c rfl) ?_
        refine go_goto (t := 114) dX11_isNothing_110 rfl ?_
        cases h
        exact k21J
      · rw [if_neg (show ¬ (j3 ≠ 0) from c33)] at h
        refine go_iload (pc' := 77) dX11_isNothing_75 rfl rfl ?_
        refine go_if_ne (t := 109) (pc' := 80) dX11_isNothing_77 rfl rfl (fun c31 => ?_) (fun c31 => ?_)
        · rw [if_pos (show j12 ≠ 0 from c31)] at h
          refine go_iconst (pc' := 110) dX11_isNothing_109 rfl (r32_c rfl) ?_
          refine go_goto (t := 114) dX11_isNothing_110 rfl ?_
          cases h
          exact k21J
        · rw [if_neg (show ¬ (j12 ≠ 0) from c31)] at h
          refine go_aload_n (pc' := 81) dX11_isNothing_80 rfl rfl (Nat.le_of_ble_eq_true rfl) ?_
          refine go_iconst (pc' := 82) dX11_isNothing_81 rfl (r32_c rfl) ?_
          refine go_iload_n (pc' := 83) dX11_isNothing_82 rfl rfl ?_
          obtain ⟨v22, k23, h⟩ := bd h
          have k23 := l_M_isPlain (d + 2) n e σ 2 x3 _ k23
          refine go_call (kc := 173) (Mc := mt173) (v := some (pvI v22)) (w' := (true, n, e, σ)) (pc' := 86) (st' := [pvI v22]) [pvR 11 0 129, pvI 2, pvI x3] [] (Or.inl rfl) dX11_isNothing_83 rfl rm_11_180 mtE173 rfl rfl rfl (Nat.le_of_ble_eq_true rfl) (Or.inr ⟨_, _, 129, rfl, Or.inl rfl⟩) k23 rfl ?_
          refine go_if_eq (t := 113) (pc' := 89) dX11_isNothing_86 rfl rfl (fun c30 => ?_) (fun c30 => ?_)
          · rw [if_pos (show v22 = 0 from c30)] at h
            refine go_iconst (pc' := 114) dX11_isNothing_113 rfl (r32_c rfl) ?_
            cases h
            exact k21J
          · rw [if_neg (show ¬ (v22 = 0) from c30)] at h
            refine go_aload_n (pc' := 90) dX11_isNothing_89 rfl rfl (Nat.le_of_ble_eq_true rfl) ?_
            refine go_iconst (pc' := 91) dX11_isNothing_90 rfl (r32_c rfl) ?_
            refine go_iload_n (pc' := 92) dX11_isNothing_91 rfl rfl ?_
            obtain ⟨v24, k25, h⟩ := bd h
            have k25 := l_M_depth (d + 0) n e σ 2 x3 _ k25
            refine go_call (kc := 185) (Mc := mt185) (v := some (pvI v24)) (w' := (true, n, e, σ)) (pc' := 95) (st' := [pvI v24]) [pvR 11 0 129, pvI 2, pvI x3] [] (Or.inl rfl) dX11_isNothing_92 rfl rm_11_205 mtE185 rfl rfl rfl (Nat.le_of_ble_eq_true rfl) (Or.inr ⟨_, _, 129, rfl, Or.inl rfl⟩) k25 rfl ?_
            refine go_aload_n (pc' := 96) dX11_isNothing_95 rfl rfl (Nat.le_of_ble_eq_true rfl) ?_
            refine go_getR (k' := 12) (L0 := 12) (P' := 149) (pc' := 99) dX11_isNothing_96 rfl rf_11_69 rfl rfl (by omega) ?_
            refine go_iconst (pc' := 100) dX11_isNothing_99 rfl (r32_c rfl) ?_
            refine go_iload (pc' := 102) dX11_isNothing_100 rfl rfl ?_
            obtain ⟨g26, h⟩ := gd h
            refine go_imul (pc' := 103) dX11_isNothing_102 rfl g26 ?_
            refine go_iconst (pc' := 104) dX11_isNothing_103 rfl (r32_c rfl) ?_
            obtain ⟨g27, h⟩ := gd h
            refine go_iadd (pc' := 105) dX11_isNothing_104 rfl g27 ?_
            obtain ⟨g28, h⟩ := gd h
            refine go_iald (pc' := 106) dX11_isNothing_105 rfl g28 ?_
            refine go_icmp_ge (t := 113) (pc' := 109) dX11_isNothing_106 rfl rfl (fun c29 => ?_) (fun c29 => ?_)
            · rw [if_pos (show (σ 149 ((3 * x4) + 2)) ≤ v24 from c29)] at h
              refine go_iconst (pc' := 114) dX11_isNothing_113 rfl (r32_c rfl) ?_
              cases h
              exact k21J
            · rw [if_neg (show ¬ ((σ 149 ((3 * x4) + 2)) ≤ v24) from c29)] at h
              refine go_iconst (pc' := 110) dX11_isNothing_109 rfl (r32_c rfl) ?_
              refine go_goto (t := 114) dX11_isNothing_110 rfl ?_
              cases h
              exact k21J
    clear h
    have h := k13
    refine go_if_eq (t := 67) (pc' := 43) dX11_isNothing_40 rfl rfl (fun c34 => ?_) (fun c34 => ?_)
    · rw [if_pos (show v10 = 0 from c34)] at h
      refine go_iconst (pc' := 68) dX11_isNothing_67 rfl (r32_c rfl) ?_
      cases h
      exact k13J
    · rw [if_neg (show ¬ (v10 = 0) from c34)] at h
      refine go_aload_n (pc' := 44) dX11_isNothing_43 rfl rfl (Nat.le_of_ble_eq_true rfl) ?_
      refine go_iconst (pc' := 45) dX11_isNothing_44 rfl (r32_c rfl) ?_
      refine go_iload_n (pc' := 46) dX11_isNothing_45 rfl rfl ?_
      obtain ⟨v14, k15, h⟩ := bd h
      have k15 := l_M_depth (d + 0) n e σ 1 x2 _ k15
      refine go_call (kc := 185) (Mc := mt185) (v := some (pvI v14)) (w' := (true, n, e, σ)) (pc' := 49) (st' := [pvI v14]) [pvR 11 0 129, pvI 1, pvI x2] [] (Or.inl rfl) dX11_isNothing_46 rfl rm_11_205 mtE185 rfl rfl rfl (Nat.le_of_ble_eq_true rfl) (Or.inr ⟨_, _, 129, rfl, Or.inl rfl⟩) k15 rfl ?_
      refine go_aload_n (pc' := 50) dX11_isNothing_49 rfl rfl (Nat.le_of_ble_eq_true rfl) ?_
      refine go_getR (k' := 12) (L0 := 12) (P' := 149) (pc' := 53) dX11_isNothing_50 rfl rf_11_69 rfl rfl (by omega) ?_
      refine go_iconst (pc' := 54) dX11_isNothing_53 rfl (r32_c rfl) ?_
      refine go_iload (pc' := 56) dX11_isNothing_54 rfl rfl ?_
      obtain ⟨g16, h⟩ := gd h
      refine go_imul (pc' := 57) dX11_isNothing_56 rfl g16 ?_
      refine go_iconst (pc' := 58) dX11_isNothing_57 rfl (r32_c rfl) ?_
      obtain ⟨g17, h⟩ := gd h
      refine go_iadd (pc' := 59) dX11_isNothing_58 rfl g17 ?_
      obtain ⟨g18, h⟩ := gd h
      refine go_iald (pc' := 60) dX11_isNothing_59 rfl g18 ?_
      refine go_icmp_ge (t := 67) (pc' := 63) dX11_isNothing_60 rfl rfl (fun c19 => ?_) (fun c19 => ?_)
      · rw [if_pos (show (σ 149 ((3 * x4) + 1)) ≤ v14 from c19)] at h
        refine go_iconst (pc' := 68) dX11_isNothing_67 rfl (r32_c rfl) ?_
        cases h
        exact k13J
      · rw [if_neg (show ¬ ((σ 149 ((3 * x4) + 1)) ≤ v14) from c19)] at h
        refine go_iconst (pc' := 64) dX11_isNothing_63 rfl (r32_c rfl) ?_
        refine go_goto (t := 68) dX11_isNothing_64 rfl ?_
        cases h
        exact k13J
  clear h
  have h := k4
  refine go_if_eq (t := 31) (pc' := 9) dX11_isNothing_6 rfl rfl (fun c35 => ?_) (fun c35 => ?_)
  · rw [if_pos (show v1 = 0 from c35)] at h
    refine go_iconst (pc' := 32) dX11_isNothing_31 rfl (r32_c rfl) ?_
    cases h
    exact k4J
  · rw [if_neg (show ¬ (v1 = 0) from c35)] at h
    refine go_aload_n (pc' := 10) dX11_isNothing_9 rfl rfl (Nat.le_of_ble_eq_true rfl) ?_
    refine go_iconst (pc' := 11) dX11_isNothing_10 rfl (r32_c rfl) ?_
    refine go_iload_n (pc' := 12) dX11_isNothing_11 rfl rfl ?_
    obtain ⟨v5, k6, h⟩ := bd h
    have k6 := l_M_depth (d + 0) n e σ 0 x1 _ k6
    refine go_call (kc := 185) (Mc := mt185) (v := some (pvI v5)) (w' := (true, n, e, σ)) (pc' := 15) (st' := [pvI v5]) [pvR 11 0 129, pvI 0, pvI x1] [] (Or.inl rfl) dX11_isNothing_12 rfl rm_11_205 mtE185 rfl rfl rfl (Nat.le_of_ble_eq_true rfl) (Or.inr ⟨_, _, 129, rfl, Or.inl rfl⟩) k6 rfl ?_
    refine go_aload_n (pc' := 16) dX11_isNothing_15 rfl rfl (Nat.le_of_ble_eq_true rfl) ?_
    refine go_getR (k' := 12) (L0 := 12) (P' := 149) (pc' := 19) dX11_isNothing_16 rfl rf_11_69 rfl rfl (by omega) ?_
    refine go_iconst (pc' := 20) dX11_isNothing_19 rfl (r32_c rfl) ?_
    refine go_iload (pc' := 22) dX11_isNothing_20 rfl rfl ?_
    obtain ⟨g7, h⟩ := gd h
    refine go_imul (pc' := 23) dX11_isNothing_22 rfl g7 ?_
    obtain ⟨g8, h⟩ := gd h
    refine go_iald (pc' := 24) dX11_isNothing_23 rfl g8 ?_
    refine go_icmp_ge (t := 31) (pc' := 27) dX11_isNothing_24 rfl rfl (fun c9 => ?_) (fun c9 => ?_)
    · rw [if_pos (show (σ 149 (3 * x4)) ≤ v5 from c9)] at h
      refine go_iconst (pc' := 32) dX11_isNothing_31 rfl (r32_c rfl) ?_
      cases h
      exact k4J
    · rw [if_neg (show ¬ ((σ 149 (3 * x4)) ≤ v5) from c9)] at h
      refine go_iconst (pc' := 28) dX11_isNothing_27 rfl (r32_c rfl) ?_
      refine go_goto (t := 32) dX11_isNothing_28 rfl ?_
      cases h
      exact k4J

set_option maxRecDepth 10000 in
theorem l_M_plain_153 (d : Nat) (n : Nat) (e : Nat) (σ : Hp) (x1 : Int) (x2 : Int) (x3 : Int) (x4 : Int) (j6 : Int) (y3 : Int) (y4 : Int) (j15 : Int) (j19 : Int) (j27 : Int) {out : Out} : ∀ (F : Nat) (y29 : Int) (y30 : Int) (j43 : Int × Int), f_M_plain_153 σ x1 x2 x3 x4 y4 F y29 y30 = some j43 → Go none (Ev (d + 4)) mt218 217 [some (pvR 11 0 129), some (pvI x1), some (pvI x2), some (pvI x3), some (pvI x4), some (pvI j27), some (pvL (j15 + j19)), none, some (pvI y3), some (pvI y4), some (pvI j6), some (pvI (σ 145 (σ 150 y4))), some (pvI j43.1), some (pvI j43.2)] [] (true, n, e, σ) out → Go none (Ev (d + 4)) mt218 153 [some (pvR 11 0 129), some (pvI x1), some (pvI x2), some (pvI x3), some (pvI x4), some (pvI j27), some (pvL (j15 + j19)), none, some (pvI y3), some (pvI y4), some (pvI j6), some (pvI (σ 145 (σ 150 y4))), some (pvI y29), some (pvI y30)] [] (true, n, e, σ) out := by
  intro F
  induction F with
  | zero =>
    intro _ _ _ h
    intro _
    rw [f_M_plain_153] at h
    cases h
  | succ F ih =>
    intro y29 y30 j43 h hx
    rw [f_M_plain_153] at h
    refine go_iload (pc' := 155) dX11_plain_153 rfl rfl ?_
    refine go_iload (pc' := 157) dX11_plain_155 rfl rfl ?_
    refine go_icmp_ge (t := 217) (pc' := 160) dX11_plain_157 rfl rfl (fun c42 => ?_) (fun c42 => ?_)
    · rw [if_pos (show y4 ≤ y30 from c42)] at h
      cases h
      exact hx
    · rw [if_neg (show ¬ (y4 ≤ y30) from c42)] at h
      refine go_iload (pc' := 162) dX11_plain_160 rfl rfl ?_
      refine go_aload_n (pc' := 163) dX11_plain_162 rfl rfl (Nat.le_of_ble_eq_true rfl) ?_
      refine go_getR (k' := 12) (L0 := 51) (P' := 153) (pc' := 166) dX11_plain_163 rfl rf_11_81 rfl rfl (by omega) ?_
      refine go_iload (pc' := 168) dX11_plain_166 rfl rfl ?_
      obtain ⟨g31, h⟩ := gd h
      refine go_iald (pc' := 169) dX11_plain_168 rfl g31 ?_
      refine go_iload (pc' := 171) dX11_plain_169 rfl rfl ?_
      obtain ⟨j32, k33, h⟩ := bd h
      have k33J : Go none (Ev (d + 4)) mt218 208 [some (pvR 11 0 129), some (pvI x1), some (pvI x2), some (pvI x3), some (pvI x4), some (pvI j27), some (pvL (j15 + j19)), none, some (pvI y3), some (pvI y4), some (pvI j6), some (pvI (σ 145 (σ 150 y4))), some (pvI y29), some (pvI y30)] [pvI j32, pvI y29] (true, n, e, σ) out := by
        refine go_iand (pc' := 209) dX11_plain_208 rfl ?_
        refine go_istore (L' := [some (pvR 11 0 129), some (pvI x1), some (pvI x2), some (pvI x3), some (pvI x4), some (pvI j27), some (pvL (j15 + j19)), none, some (pvI y3), some (pvI y4), some (pvI j6), some (pvI (σ 145 (σ 150 y4))), some (pvI (iand y29 j32)), some (pvI y30)]) (pc' := 211) dX11_plain_209 rfl (Nat.le_of_ble_eq_true rfl) rfl ?_
        obtain ⟨g40, h⟩ := gd h
        refine go_iinc (L' := [some (pvR 11 0 129), some (pvI x1), some (pvI x2), some (pvI x3), some (pvI x4), some (pvI j27), some (pvL (j15 + j19)), none, some (pvI y3), some (pvI y4), some (pvI j6), some (pvI (σ 145 (σ 150 y4))), some (pvI (iand y29 j32)), some (pvI (y30 + 1))]) (pc' := 214) dX11_plain_211 rfl rfl g40 rfl ?_
        refine go_goto (t := 153) dX11_plain_214 rfl ?_
        exact ih (iand y29 j32) (y30 + 1) _ h hx
      clear h
      have h := k33
      refine go_icmp_ne (t := 203) (pc' := 174) dX11_plain_171 rfl rfl (fun c41 => ?_) (fun c41 => ?_)
      · rw [if_pos (show (σ 153 y30) ≠ x4 from c41)] at h
        refine go_iconst (pc' := 204) dX11_plain_203 rfl (r32_c rfl) ?_
        refine go_goto (t := 208) dX11_plain_204 rfl ?_
        cases h
        exact k33J
      · rw [if_neg (show ¬ ((σ 153 y30) ≠ x4) from c41)] at h
        refine go_aload_n (pc' := 175) dX11_plain_174 rfl rfl (Nat.le_of_ble_eq_true rfl) ?_
        refine go_getR (k' := 12) (L0 := 51) (P' := 154) (pc' := 178) dX11_plain_175 rfl rf_11_84 rfl rfl (by omega) ?_
        refine go_iload (pc' := 180) dX11_plain_178 rfl rfl ?_
        obtain ⟨g34, h⟩ := gd h
        refine go_iald (pc' := 181) dX11_plain_180 rfl g34 ?_
        refine go_aload_n (pc' := 182) dX11_plain_181 rfl rfl (Nat.le_of_ble_eq_true rfl) ?_
        refine go_getR (k' := 12) (L0 := 51) (P' := 154) (pc' := 185) dX11_plain_182 rfl rf_11_84 rfl rfl (by omega) ?_
        refine go_iload (pc' := 187) dX11_plain_185 rfl rfl ?_
        obtain ⟨g35, h⟩ := gd h
        refine go_iald (pc' := 188) dX11_plain_187 rfl g35 ?_
        refine go_icmp_ne (t := 203) (pc' := 191) dX11_plain_188 rfl rfl (fun c39 => ?_) (fun c39 => ?_)
        · rw [if_pos (show (σ 154 y30) ≠ (σ 154 y4) from c39)] at h
          refine go_iconst (pc' := 204) dX11_plain_203 rfl (r32_c rfl) ?_
          refine go_goto (t := 208) dX11_plain_204 rfl ?_
          cases h
          exact k33J
        · rw [if_neg (show ¬ ((σ 154 y30) ≠ (σ 154 y4)) from c39)] at h
          refine go_aload_n (pc' := 192) dX11_plain_191 rfl rfl (Nat.le_of_ble_eq_true rfl) ?_
          refine go_iload (pc' := 194) dX11_plain_192 rfl rfl ?_
          refine go_iload_n (pc' := 195) dX11_plain_194 rfl rfl ?_
          refine go_iload_n (pc' := 196) dX11_plain_195 rfl rfl ?_
          refine go_iload_n (pc' := 197) dX11_plain_196 rfl rfl ?_
          obtain ⟨v36, k37, h⟩ := bd h
          have k37 := l_M_counts (d + 0) n e σ y30 x1 x2 x3 _ k37
          refine go_call (kc := 202) (Mc := mt202) (v := some (pvI v36)) (w' := (true, n, e, σ)) (pc' := 200) (st' := [pvI v36, pvI y29]) [pvR 11 0 129, pvI y30, pvI x1, pvI x2, pvI x3] [pvI y29] (Or.inl rfl) dX11_plain_197 rfl rm_11_259 mtE202 rfl rfl rfl (Nat.le_of_ble_eq_true rfl) (Or.inr ⟨_, _, 129, rfl, Or.inl rfl⟩) k37 rfl ?_
          refine go_if_ne (t := 207) (pc' := 203) dX11_plain_200 rfl rfl (fun c38 => ?_) (fun c38 => ?_)
          · rw [if_pos (show v36 ≠ 0 from c38)] at h
            refine go_iconst (pc' := 208) dX11_plain_207 rfl (r32_c rfl) ?_
            cases h
            exact k33J
          · rw [if_neg (show ¬ (v36 ≠ 0) from c38)] at h
            refine go_iconst (pc' := 204) dX11_plain_203 rfl (r32_c rfl) ?_
            refine go_goto (t := 208) dX11_plain_204 rfl ?_
            cases h
            exact k33J

set_option maxRecDepth 10000 in
theorem l_M_plain_12 (d : Nat) (n : Nat) (e : Nat) (σ : Hp) (x1 : Int) (x2 : Int) (x3 : Int) (x4 : Int) {out : Out} : ∀ (F : Nat) (y1 : Int) (y2 : Int) (y3 : Int) (y4 : Int) (j57 : Int × Int × Int × Int), f_M_plain_12 σ x1 x2 x3 x4 F y1 y2 y3 y4 = some j57 → Go none (Ev (d + 4)) mt218 238 [some (pvR 11 0 129), some (pvI x1), some (pvI x2), some (pvI x3), some (pvI x4), some (pvI j57.1), some (pvL j57.2.1), none, some (pvI j57.2.2.1), some (pvI j57.2.2.2), none, none, none, none] [] (true, n, e, σ) out → Go none (Ev (d + 4)) mt218 12 [some (pvR 11 0 129), some (pvI x1), some (pvI x2), some (pvI x3), some (pvI x4), some (pvI y1), some (pvL y2), none, some (pvI y3), some (pvI y4), none, none, none, none] [] (true, n, e, σ) out := by
  intro F
  induction F with
  | zero =>
    intro _ _ _ _ _ h
    intro _
    rw [f_M_plain_12] at h
    cases h
  | succ F ih =>
    intro y1 y2 y3 y4 j57 h hx
    rw [f_M_plain_12] at h
    refine go_iload (pc' := 14) dX11_plain_12 rfl rfl ?_
    refine go_aload_n (pc' := 15) dX11_plain_14 rfl rfl (Nat.le_of_ble_eq_true rfl) ?_
    refine go_getI (pc' := 18) dX11_plain_15 rfl rf_11_230 rfl ?_
    refine go_icmp_ge (t := 238) (pc' := 21) dX11_plain_18 rfl rfl (fun c56 => ?_) (fun c56 => ?_)
    · rw [if_pos (show (σ 129 29) ≤ y4 from c56)] at h
      cases h
      exact hx
    · rw [if_neg (show ¬ ((σ 129 29) ≤ y4) from c56)] at h
      refine go_aload_n (pc' := 22) dX11_plain_21 rfl rfl (Nat.le_of_ble_eq_true rfl) ?_
      refine go_getR (k' := 12) (L0 := 51) (P' := 153) (pc' := 25) dX11_plain_22 rfl rf_11_81 rfl rfl (by omega) ?_
      refine go_iload (pc' := 27) dX11_plain_25 rfl rfl ?_
      obtain ⟨g5, h⟩ := gd h
      refine go_iald (pc' := 28) dX11_plain_27 rfl g5 ?_
      refine go_iload (pc' := 30) dX11_plain_28 rfl rfl ?_
      obtain ⟨j6, k7, h⟩ := bd h
      have k7J : Go none (Ev (d + 4)) mt218 46 [some (pvR 11 0 129), some (pvI x1), some (pvI x2), some (pvI x3), some (pvI x4), some (pvI y1), some (pvL y2), none, some (pvI y3), some (pvI y4), none, none, none, none] [pvI j6] (true, n, e, σ) out := by
        refine go_istore (L' := [some (pvR 11 0 129), some (pvI x1), some (pvI x2), some (pvI x3), some (pvI x4), some (pvI y1), some (pvL y2), none, some (pvI y3), some (pvI y4), some (pvI j6), none, none, none]) (pc' := 48) dX11_plain_46 rfl (Nat.le_of_ble_eq_true rfl) rfl ?_
        refine go_iload (pc' := 50) dX11_plain_48 rfl rfl ?_
        obtain ⟨j10, k11, h⟩ := bd h
        have k11J : Go none (Ev (d + 4)) mt218 232 [some (pvR 11 0 129), some (pvI x1), some (pvI x2), some (pvI x3), some (pvI x4), some (pvI j10.1), some (pvL j10.2.1), none, some (pvI j10.2.2), some (pvI y4), some (pvI j6), none, none, none] [] (true, n, e, σ) out := by
          obtain ⟨g53, h⟩ := gd h
          refine go_iinc (L' := [some (pvR 11 0 129), some (pvI x1), some (pvI x2), some (pvI x3), some (pvI x4), some (pvI j10.1), some (pvL j10.2.1), none, some (pvI j10.2.2), some (pvI (y4 + 1)), some (pvI j6), none, none, none]) (pc' := 235) dX11_plain_232 rfl rfl g53 rfl ?_
          refine go_goto (t := 12) dX11_plain_235 rfl ?_
          exact go_sub (ih j10.1 j10.2.1 j10.2.2 (y4 + 1) _ h hx) ⟨Or.inr rfl, Or.inr rfl, Or.inr rfl, Or.inr rfl, Or.inr rfl, Or.inr rfl, Or.inr rfl, Or.inr rfl, Or.inr rfl, Or.inr rfl, Or.inl rfl, Or.inr rfl, Or.inr rfl, Or.inr rfl, trivial⟩
        clear h
        have h := k11
        refine go_if_eq (t := 232) (pc' := 53) dX11_plain_50 rfl rfl (fun c54 => ?_) (fun c54 => ?_)
        · rw [if_pos (show j6 = 0 from c54)] at h
          cases h
          exact k11J
        · rw [if_neg (show ¬ (j6 = 0) from c54)] at h
          refine go_aload_n (pc' := 54) dX11_plain_53 rfl rfl (Nat.le_of_ble_eq_true rfl) ?_
          refine go_getR (k' := 12) (L0 := 12) (P' := 145) (pc' := 57) dX11_plain_54 rfl rf_11_57 rfl rfl (by omega) ?_
          refine go_aload_n (pc' := 58) dX11_plain_57 rfl rfl (Nat.le_of_ble_eq_true rfl) ?_
          refine go_getR (k' := 12) (L0 := 51) (P' := 150) (pc' := 61) dX11_plain_58 rfl rf_11_72 rfl rfl (by omega) ?_
          refine go_iload (pc' := 63) dX11_plain_61 rfl rfl ?_
          obtain ⟨g12, h⟩ := gd h
          refine go_iald (pc' := 64) dX11_plain_63 rfl g12 ?_
          obtain ⟨g13, h⟩ := gd h
          refine go_iald (pc' := 65) dX11_plain_64 rfl g13 ?_
          refine go_istore (L' := [some (pvR 11 0 129), some (pvI x1), some (pvI x2), some (pvI x3), some (pvI x4), some (pvI y1), some (pvL y2), none, some (pvI y3), some (pvI y4), some (pvI j6), some (pvI (σ 145 (σ 150 y4))), none, none]) (pc' := 67) dX11_plain_65 rfl (Nat.le_of_ble_eq_true rfl) rfl ?_
          refine go_aload_n (pc' := 68) dX11_plain_67 rfl rfl (Nat.le_of_ble_eq_true rfl) ?_
          refine go_getR (k' := 12) (L0 := 4) (P' := 146) (pc' := 71) dX11_plain_68 rfl rf_11_60 rfl rfl (by omega) ?_
          refine go_iload (pc' := 73) dX11_plain_71 rfl rfl ?_
          obtain ⟨g14, h⟩ := gd h
          refine go_iald (pc' := 74) dX11_plain_73 rfl g14 ?_
          refine go_iconst (pc' := 75) dX11_plain_74 rfl (r32_c rfl) ?_
          obtain ⟨j15, k16, h⟩ := bd h
          have k16J : Go none (Ev (d + 4)) mt218 91 [some (pvR 11 0 129), some (pvI x1), some (pvI x2), some (pvI x3), some (pvI x4), some (pvI y1), some (pvL y2), none, some (pvI y3), some (pvI y4), some (pvI j6), some (pvI (σ 145 (σ 150 y4))), none, none] [pvL j15] (true, n, e, σ) out := by
            refine go_lstore (L' := [some (pvR 11 0 129), some (pvI x1), some (pvI x2), some (pvI x3), some (pvI x4), some (pvI y1), some (pvL j15), none, some (pvI y3), some (pvI y4), some (pvI j6), some (pvI (σ 145 (σ 150 y4))), none, none]) (pc' := 93) dX11_plain_91 rfl (Nat.le_of_ble_eq_true rfl) rfl ?_
            refine go_lload (pc' := 95) dX11_plain_93 rfl rfl ?_
            refine go_aload_n (pc' := 96) dX11_plain_95 rfl rfl (Nat.le_of_ble_eq_true rfl) ?_
            refine go_getR (k' := 12) (L0 := 4) (P' := 146) (pc' := 99) dX11_plain_96 rfl rf_11_60 rfl rfl (by omega) ?_
            refine go_iload (pc' := 101) dX11_plain_99 rfl rfl ?_
            obtain ⟨g18, h⟩ := gd h
            refine go_iald (pc' := 102) dX11_plain_101 rfl g18 ?_
            refine go_iconst (pc' := 103) dX11_plain_102 rfl (r32_c rfl) ?_
            obtain ⟨j19, k20, h⟩ := bd h
            have k20J : Go none (Ev (d + 4)) mt218 128 [some (pvR 11 0 129), some (pvI x1), some (pvI x2), some (pvI x3), some (pvI x4), some (pvI y1), some (pvL j15), none, some (pvI y3), some (pvI y4), some (pvI j6), some (pvI (σ 145 (σ 150 y4))), none, none] [pvL j19, pvL j15] (true, n, e, σ) out := by
              obtain ⟨g26, h⟩ := gd h
              refine go_ladd (pc' := 129) dX11_plain_128 rfl g26 ?_
              refine go_lstore (L' := [some (pvR 11 0 129), some (pvI x1), some (pvI x2), some (pvI x3), some (pvI x4), some (pvI y1), some (pvL (j15 + j19)), none, some (pvI y3), some (pvI y4), some (pvI j6), some (pvI (σ 145 (σ 150 y4))), none, none]) (pc' := 131) dX11_plain_129 rfl (Nat.le_of_ble_eq_true rfl) rfl ?_
              refine go_iload (pc' := 133) dX11_plain_131 rfl rfl ?_
              refine go_iload (pc' := 135) dX11_plain_133 rfl rfl ?_
              obtain ⟨j27, k28, h⟩ := bd h
              have k28J : Go none (Ev (d + 4)) mt218 145 [some (pvR 11 0 129), some (pvI x1), some (pvI x2), some (pvI x3), some (pvI x4), some (pvI y1), some (pvL (j15 + j19)), none, some (pvI y3), some (pvI y4), some (pvI j6), some (pvI (σ 145 (σ 150 y4))), none, none] [pvI j27] (true, n, e, σ) out := by
                refine go_istore (L' := [some (pvR 11 0 129), some (pvI x1), some (pvI x2), some (pvI x3), some (pvI x4), some (pvI j27), some (pvL (j15 + j19)), none, some (pvI y3), some (pvI y4), some (pvI j6), some (pvI (σ 145 (σ 150 y4))), none, none]) (pc' := 147) dX11_plain_145 rfl (Nat.le_of_ble_eq_true rfl) rfl ?_
                refine go_iconst (pc' := 148) dX11_plain_147 rfl (r32_c rfl) ?_
                refine go_istore (L' := [some (pvR 11 0 129), some (pvI x1), some (pvI x2), some (pvI x3), some (pvI x4), some (pvI j27), some (pvL (j15 + j19)), none, some (pvI y3), some (pvI y4), some (pvI j6), some (pvI (σ 145 (σ 150 y4))), some (pvI 1), none]) (pc' := 150) dX11_plain_148 rfl (Nat.le_of_ble_eq_true rfl) rfl ?_
                refine go_iconst (pc' := 151) dX11_plain_150 rfl (r32_c rfl) ?_
                refine go_istore (L' := [some (pvR 11 0 129), some (pvI x1), some (pvI x2), some (pvI x3), some (pvI x4), some (pvI j27), some (pvL (j15 + j19)), none, some (pvI y3), some (pvI y4), some (pvI j6), some (pvI (σ 145 (σ 150 y4))), some (pvI 1), some (pvI 0)]) (pc' := 153) dX11_plain_151 rfl (Nat.le_of_ble_eq_true rfl) rfl ?_
                obtain ⟨j44, k45, h⟩ := bd h
                refine l_M_plain_153 d n e σ x1 x2 x3 x4 j6 y3 y4 j15 j19 j27 zFuel 1 0 _ k45 ?_
                refine go_iload (pc' := 219) dX11_plain_217 rfl rfl ?_
                refine go_iload (pc' := 221) dX11_plain_219 rfl rfl ?_
                obtain ⟨j46, k47, h⟩ := bd h
                have k47J : Go none (Ev (d + 4)) mt218 229 [some (pvR 11 0 129), some (pvI x1), some (pvI x2), some (pvI x3), some (pvI x4), some (pvI j27), some (pvL (j15 + j19)), none, some (pvI y3), some (pvI y4), some (pvI j6), some (pvI (σ 145 (σ 150 y4))), some (pvI j44.1), some (pvI j44.2)] [pvI j46, pvI y3] (true, n, e, σ) out := by
                  obtain ⟨g48, h⟩ := gd h
                  refine go_iadd (pc' := 230) dX11_plain_229 rfl g48 ?_
                  refine go_istore (L' := [some (pvR 11 0 129), some (pvI x1), some (pvI x2), some (pvI x3), some (pvI x4), some (pvI j27), some (pvL (j15 + j19)), none, some (pvI (y3 + j46)), some (pvI y4), some (pvI j6), some (pvI (σ 145 (σ 150 y4))), some (pvI j44.1), some (pvI j44.2)]) (pc' := 232) dX11_plain_230 rfl (Nat.le_of_ble_eq_true rfl) rfl ?_
                  cases h
                  exact go_sub k11J ⟨Or.inr rfl, Or.inr rfl, Or.inr rfl, Or.inr rfl, Or.inr rfl, Or.inr rfl, Or.inr rfl, Or.inr rfl, Or.inr rfl, Or.inr rfl, Or.inr rfl, Or.inl rfl, Or.inl rfl, Or.inl rfl, trivial⟩
                clear h
                have h := k47
                refine go_if_eq (t := 228) (pc' := 224) dX11_plain_221 rfl rfl (fun c49 => ?_) (fun c49 => ?_)
                · rw [if_pos (show j44.1 = 0 from c49)] at h
                  refine go_iconst (pc' := 229) dX11_plain_228 rfl (r32_c rfl) ?_
                  cases h
                  exact k47J
                · rw [if_neg (show ¬ (j44.1 = 0) from c49)] at h
                  refine go_iconst (pc' := 225) dX11_plain_224 rfl (r32_c rfl) ?_
                  refine go_goto (t := 229) dX11_plain_225 rfl ?_
                  cases h
                  exact k47J
              clear h
              have h := k28
              refine go_icmp_le (t := 143) (pc' := 138) dX11_plain_135 rfl rfl (fun c50 => ?_) (fun c50 => ?_)
              · rw [if_pos (show (σ 145 (σ 150 y4)) ≤ y1 from c50)] at h
                refine go_iload (pc' := 145) dX11_plain_143 rfl rfl ?_
                cases h
                exact k28J
              · rw [if_neg (show ¬ ((σ 145 (σ 150 y4)) ≤ y1) from c50)] at h
                refine go_iload (pc' := 140) dX11_plain_138 rfl rfl ?_
                refine go_goto (t := 145) dX11_plain_140 rfl ?_
                cases h
                exact k28J
            clear h
            have h := k20
            refine go_icmp_ne (t := 117) (pc' := 106) dX11_plain_103 rfl rfl (fun c51 => ?_) (fun c51 => ?_)
            · rw [if_pos (show (σ 146 x4) ≠ 1 from c51)] at h
              refine go_iload (pc' := 119) dX11_plain_117 rfl rfl ?_
              refine go_aload_n (pc' := 120) dX11_plain_119 rfl rfl (Nat.le_of_ble_eq_true rfl) ?_
              refine go_getR (k' := 12) (L0 := 51) (P' := 154) (pc' := 123) dX11_plain_120 rfl rf_11_84 rfl rfl (by omega) ?_
              refine go_iload (pc' := 125) dX11_plain_123 rfl rfl ?_
              obtain ⟨g21, h⟩ := gd h
              refine go_iald (pc' := 126) dX11_plain_125 rfl g21 ?_
              obtain ⟨g22, h⟩ := gd h
              refine go_imul (pc' := 127) dX11_plain_126 rfl g22 ?_
              refine go_i2l (pc' := 128) dX11_plain_127 rfl ?_
              cases h
              exact k20J
            · rw [if_neg (show ¬ ((σ 146 x4) ≠ 1) from c51)] at h
              refine go_iload (pc' := 108) dX11_plain_106 rfl rfl ?_
              refine go_iload (pc' := 110) dX11_plain_108 rfl rfl ?_
              refine go_icmp_ge (t := 117) (pc' := 113) dX11_plain_110 rfl rfl (fun c25 => ?_) (fun c25 => ?_)
              · rw [if_pos (show y1 ≤ (σ 145 (σ 150 y4)) from c25)] at h
                refine go_iload (pc' := 119) dX11_plain_117 rfl rfl ?_
                refine go_aload_n (pc' := 120) dX11_plain_119 rfl rfl (Nat.le_of_ble_eq_true rfl) ?_
                refine go_getR (k' := 12) (L0 := 51) (P' := 154) (pc' := 123) dX11_plain_120 rfl rf_11_84 rfl rfl (by omega) ?_
                refine go_iload (pc' := 125) dX11_plain_123 rfl rfl ?_
                obtain ⟨g23, h⟩ := gd h
                refine go_iald (pc' := 126) dX11_plain_125 rfl g23 ?_
                obtain ⟨g24, h⟩ := gd h
                refine go_imul (pc' := 127) dX11_plain_126 rfl g24 ?_
                refine go_i2l (pc' := 128) dX11_plain_127 rfl ?_
                cases h
                exact k20J
              · rw [if_neg (show ¬ (y1 ≤ (σ 145 (σ 150 y4))) from c25)] at h
                refine go_lconst (z := 0) (pc' := 114) dX11_plain_113 rfl rfl ?_
                refine go_goto (t := 128) dX11_plain_114 rfl ?_
                cases h
                exact k20J
          clear h
          have h := k16
          refine go_icmp_ne (t := 89) (pc' := 78) dX11_plain_75 rfl rfl (fun c52 => ?_) (fun c52 => ?_)
          · rw [if_pos (show (σ 146 x4) ≠ 1 from c52)] at h
            refine go_lload (pc' := 91) dX11_plain_89 rfl rfl ?_
            cases h
            exact k16J
          · rw [if_neg (show ¬ ((σ 146 x4) ≠ 1) from c52)] at h
            refine go_iload (pc' := 80) dX11_plain_78 rfl rfl ?_
            refine go_iload (pc' := 82) dX11_plain_80 rfl rfl ?_
            refine go_icmp_le (t := 89) (pc' := 85) dX11_plain_82 rfl rfl (fun c17 => ?_) (fun c17 => ?_)
            · rw [if_pos (show (σ 145 (σ 150 y4)) ≤ y1 from c17)] at h
              refine go_lload (pc' := 91) dX11_plain_89 rfl rfl ?_
              cases h
              exact k16J
            · rw [if_neg (show ¬ ((σ 145 (σ 150 y4)) ≤ y1) from c17)] at h
              refine go_lconst (z := 0) (pc' := 86) dX11_plain_85 rfl rfl ?_
              refine go_goto (t := 91) dX11_plain_86 rfl ?_
              cases h
              exact k16J
      clear h
      have h := k7
      refine go_icmp_ne (t := 45) (pc' := 33) dX11_plain_30 rfl rfl (fun c55 => ?_) (fun c55 => ?_)
      · rw [if_pos (show (σ 153 y4) ≠ x4 from c55)] at h
        refine go_iconst (pc' := 46) dX11_plain_45 rfl (r32_c rfl) ?_
        cases h
        exact k7J
      · rw [if_neg (show ¬ ((σ 153 y4) ≠ x4) from c55)] at h
        refine go_aload_n (pc' := 34) dX11_plain_33 rfl rfl (Nat.le_of_ble_eq_true rfl) ?_
        refine go_iload (pc' := 36) dX11_plain_34 rfl rfl ?_
        refine go_iload_n (pc' := 37) dX11_plain_36 rfl rfl ?_
        refine go_iload_n (pc' := 38) dX11_plain_37 rfl rfl ?_
        refine go_iload_n (pc' := 39) dX11_plain_38 rfl rfl ?_
        obtain ⟨v8, k9, h⟩ := bd h
        have k9 := l_M_counts (d + 0) n e σ y4 x1 x2 x3 _ k9
        refine go_call (kc := 202) (Mc := mt202) (v := some (pvI v8)) (w' := (true, n, e, σ)) (pc' := 42) (st' := [pvI v8]) [pvR 11 0 129, pvI y4, pvI x1, pvI x2, pvI x3] [] (Or.inl rfl) dX11_plain_39 rfl rm_11_259 mtE202 rfl rfl rfl (Nat.le_of_ble_eq_true rfl) (Or.inr ⟨_, _, 129, rfl, Or.inl rfl⟩) k9 rfl ?_
        refine go_goto (t := 46) dX11_plain_42 rfl ?_
        cases h
        exact k7J

set_option maxRecDepth 10000 in
theorem l_M_plain (d : Nat) (n e : Nat) (σ : Hp) (x1 : Int) (x2 : Int) (x3 : Int) (x4 : Int) (r : Int) (h : f_M_plain σ x1 x2 x3 x4 = some r) : Ev (d + 5) 218 [pvR 11 0 129, pvI x1, pvI x2, pvI x3, pvI x4] (true, n, e, σ) (0, some (pvL r), true, n, e, σ) := by
  unfold f_M_plain at h
  refine Ev.of mtE218 rfl rfl rfl rfl ?_
  show Go none (Ev (d + 4)) mt218 0 [some (pvR 11 0 129), some (pvI x1), some (pvI x2), some (pvI x3), some (pvI x4), none, none, none, none, none, none, none, none, none] [] (true, n, e, σ) (0, some (pvL r), true, n, e, σ)
  refine go_iconst (pc' := 1) dX11_plain_0 rfl (r32_c rfl) ?_
  refine go_istore (L' := [some (pvR 11 0 129), some (pvI x1), some (pvI x2), some (pvI x3), some (pvI x4), some (pvI (-1)), none, none, none, none, none, none, none, none]) (pc' := 3) dX11_plain_1 rfl (Nat.le_of_ble_eq_true rfl) rfl ?_
  refine go_lconst (z := 0) (pc' := 4) dX11_plain_3 rfl rfl ?_
  refine go_lstore (L' := [some (pvR 11 0 129), some (pvI x1), some (pvI x2), some (pvI x3), some (pvI x4), some (pvI (-1)), some (pvL 0), none, none, none, none, none, none, none]) (pc' := 6) dX11_plain_4 rfl (Nat.le_of_ble_eq_true rfl) rfl ?_
  refine go_iconst (pc' := 7) dX11_plain_6 rfl (r32_c rfl) ?_
  refine go_istore (L' := [some (pvR 11 0 129), some (pvI x1), some (pvI x2), some (pvI x3), some (pvI x4), some (pvI (-1)), some (pvL 0), none, some (pvI 0), none, none, none, none, none]) (pc' := 9) dX11_plain_7 rfl (Nat.le_of_ble_eq_true rfl) rfl ?_
  refine go_iconst (pc' := 10) dX11_plain_9 rfl (r32_c rfl) ?_
  refine go_istore (L' := [some (pvR 11 0 129), some (pvI x1), some (pvI x2), some (pvI x3), some (pvI x4), some (pvI (-1)), some (pvL 0), none, some (pvI 0), some (pvI 0), none, none, none, none]) (pc' := 12) dX11_plain_10 rfl (Nat.le_of_ble_eq_true rfl) rfl ?_
  obtain ⟨j58, k59, h⟩ := bd h
  refine l_M_plain_12 d n e σ x1 x2 x3 x4 zFuel (-1) 0 0 0 _ k59 ?_
  refine go_iload (pc' := 240) dX11_plain_238 rfl rfl ?_
  obtain ⟨j60, k61, h⟩ := bd h
  have k61J : Go none (Ev (d + 4)) mt218 268 [some (pvR 11 0 129), some (pvI x1), some (pvI x2), some (pvI x3), some (pvI x4), some (pvI j58.1), some (pvL j58.2.1), none, some (pvI j58.2.2.1), some (pvI j58.2.2.2), none, none, none, none] [pvL j60] (true, n, e, σ) (0, some (pvL r), true, n, e, σ) := by
    cases h
    exact go_lret dX11_plain_268 rfl rfl
  clear h
  have h := k61
  refine go_if_ge (t := 249) (pc' := 243) dX11_plain_240 rfl rfl (fun c64 => ?_) (fun c64 => ?_)
  · rw [if_pos (show 0 ≤ j58.1 from c64)] at h
    refine go_aload_n (pc' := 250) dX11_plain_249 rfl rfl (Nat.le_of_ble_eq_true rfl) ?_
    refine go_getR (k' := 12) (L0 := 4) (P' := 146) (pc' := 253) dX11_plain_250 rfl rf_11_60 rfl rfl (by omega) ?_
    refine go_iload (pc' := 255) dX11_plain_253 rfl rfl ?_
    obtain ⟨g62, h⟩ := gd h
    refine go_iald (pc' := 256) dX11_plain_255 rfl g62 ?_
    refine go_iconst (pc' := 257) dX11_plain_256 rfl (r32_c rfl) ?_
    refine go_icmp_ne (t := 266) (pc' := 260) dX11_plain_257 rfl rfl (fun c63 => ?_) (fun c63 => ?_)
    · rw [if_pos (show (σ 146 x4) ≠ 2 from c63)] at h
      refine go_lload (pc' := 268) dX11_plain_266 rfl rfl ?_
      cases h
      exact k61J
    · rw [if_neg (show ¬ ((σ 146 x4) ≠ 2) from c63)] at h
      refine go_iload (pc' := 262) dX11_plain_260 rfl rfl ?_
      refine go_i2l (pc' := 263) dX11_plain_262 rfl ?_
      refine go_goto (t := 268) dX11_plain_263 rfl ?_
      cases h
      exact k61J
  · rw [if_neg (show ¬ (0 ≤ j58.1) from c64)] at h
    refine go_ldc2 (pc' := 246) dX11_plain_243 rfl (r64_c rfl) rc_11_262 ?_
    refine go_goto (t := 268) dX11_plain_246 rfl ?_
    cases h
    exact k61J

set_option maxRecDepth 10000 in
theorem l_M_value_60 (F0 : Nat) (d : Nat) (n : Nat) (e : Nat) (F : Nat) (σ : Hp) (x1 : Int) (x2 : Int) (x3 : Int) (x4 : Int) (x5 : Int) (j1 : Int) {out : Out} : ∀ (F : Nat) (y11 : Int) (y12 : Int) (j37 : Int × Int), f_M_value_60 F σ x1 x2 x3 F y11 y12 = some j37 → Go none (Ev (d + F0 * 7 + 6)) mt209 168 [some (pvR 11 0 129), some (pvI x1), some (pvI x2), some (pvI x3), some (pvI x4), some (pvI x5), some (pvI ((((j1 + (576 * x1)) + (48 * x2)) + (4 * x3)) + x4)), some (pvI j37.1), some (pvI j37.2), none, none, none, none, none] [] (true, n, e, σ) out → Go none (Ev (d + F0 * 7 + 6)) mt209 60 [some (pvR 11 0 129), some (pvI x1), some (pvI x2), some (pvI x3), some (pvI x4), some (pvI x5), some (pvI ((((j1 + (576 * x1)) + (48 * x2)) + (4 * x3)) + x4)), some (pvI y11), some (pvI y12), none, none, none, none, none] [] (true, n, e, σ) out := by
  intro F
  induction F with
  | zero =>
    intro _ _ _ h
    intro _
    rw [f_M_value_60] at h
    cases h
  | succ F ih =>
    intro y11 y12 j37 h hx
    rw [f_M_value_60] at h
    refine go_iload (pc' := 62) dX11_value_60 rfl rfl ?_
    refine go_iconst (pc' := 63) dX11_value_62 rfl (r32_c rfl) ?_
    refine go_icmp_ge (t := 168) (pc' := 66) dX11_value_63 rfl rfl (fun c36 => ?_) (fun c36 => ?_)
    · rw [if_pos (show 3 ≤ y12 from c36)] at h
      cases h
      exact hx
    · rw [if_neg (show ¬ (3 ≤ y12) from c36)] at h
      refine go_bipush (pc' := 68) dX11_value_66 rfl (r32_c rfl) (by decide) ?_
      refine go_iload (pc' := 70) dX11_value_68 rfl rfl ?_
      obtain ⟨g13, h⟩ := gd h
      refine go_imul (pc' := 71) dX11_value_70 rfl g13 ?_
      refine go_iload (pc' := 73) dX11_value_71 rfl rfl ?_
      obtain ⟨j14, k15, h⟩ := bd h
      have k15J : Go none (Ev (d + F0 * 7 + 6)) mt209 91 [some (pvR 11 0 129), some (pvI x1), some (pvI x2), some (pvI x3), some (pvI x4), some (pvI x5), some (pvI ((((j1 + (576 * x1)) + (48 * x2)) + (4 * x3)) + x4)), some (pvI y11), some (pvI y12), none, none, none, none, none] [pvI j14, pvI (12 * y12)] (true, n, e, σ) out := by
        obtain ⟨g17, h⟩ := gd h
        refine go_iadd (pc' := 92) dX11_value_91 rfl g17 ?_
        refine go_istore (L' := [some (pvR 11 0 129), some (pvI x1), some (pvI x2), some (pvI x3), some (pvI x4), some (pvI x5), some (pvI ((((j1 + (576 * x1)) + (48 * x2)) + (4 * x3)) + x4)), some (pvI y11), some (pvI y12), some (pvI ((12 * y12) + j14)), none, none, none, none]) (pc' := 94) dX11_value_92 rfl (Nat.le_of_ble_eq_true rfl) rfl ?_
        refine go_aload_n (pc' := 95) dX11_value_94 rfl rfl (Nat.le_of_ble_eq_true rfl) ?_
        refine go_getR (k' := 12) (L0 := 36) (P' := 131) (pc' := 98) dX11_value_95 rfl rf_11_15 rfl rfl (by omega) ?_
        refine go_iload (pc' := 100) dX11_value_98 rfl rfl ?_
        obtain ⟨g18, h⟩ := gd h
        refine go_iald (pc' := 101) dX11_value_100 rfl g18 ?_
        refine go_iconst (pc' := 102) dX11_value_101 rfl (r32_c rfl) ?_
        obtain ⟨j19, k20, h⟩ := bd h
        have k20J : Go none (Ev (d + F0 * 7 + 6)) mt209 146 [some (pvR 11 0 129), some (pvI x1), some (pvI x2), some (pvI x3), some (pvI x4), some (pvI x5), some (pvI ((((j1 + (576 * x1)) + (48 * x2)) + (4 * x3)) + x4)), some (pvI y11), some (pvI y12), some (pvI ((12 * y12) + j14)), none, none, none, none] [pvI j19] (true, n, e, σ) out := by
          refine go_istore (L' := [some (pvR 11 0 129), some (pvI x1), some (pvI x2), some (pvI x3), some (pvI x4), some (pvI x5), some (pvI ((((j1 + (576 * x1)) + (48 * x2)) + (4 * x3)) + x4)), some (pvI y11), some (pvI y12), some (pvI ((12 * y12) + j14)), some (pvI j19), none, none, none]) (pc' := 148) dX11_value_146 rfl (Nat.le_of_ble_eq_true rfl) rfl ?_
          refine go_iload (pc' := 150) dX11_value_148 rfl rfl ?_
          obtain ⟨j30, k31, h⟩ := bd h
          have k31J : Go none (Ev (d + F0 * 7 + 6)) mt209 160 [some (pvR 11 0 129), some (pvI x1), some (pvI x2), some (pvI x3), some (pvI x4), some (pvI x5), some (pvI ((((j1 + (576 * x1)) + (48 * x2)) + (4 * x3)) + x4)), some (pvI y11), some (pvI y12), some (pvI ((12 * y12) + j14)), some (pvI j19), none, none, none] [pvI j30] (true, n, e, σ) out := by
            refine go_istore (L' := [some (pvR 11 0 129), some (pvI x1), some (pvI x2), some (pvI x3), some (pvI x4), some (pvI x5), some (pvI ((((j1 + (576 * x1)) + (48 * x2)) + (4 * x3)) + x4)), some (pvI j30), some (pvI y12), some (pvI ((12 * y12) + j14)), some (pvI j19), none, none, none]) (pc' := 162) dX11_value_160 rfl (Nat.le_of_ble_eq_true rfl) rfl ?_
            obtain ⟨g32, h⟩ := gd h
            refine go_iinc (L' := [some (pvR 11 0 129), some (pvI x1), some (pvI x2), some (pvI x3), some (pvI x4), some (pvI x5), some (pvI ((((j1 + (576 * x1)) + (48 * x2)) + (4 * x3)) + x4)), some (pvI j30), some (pvI (y12 + 1)), some (pvI ((12 * y12) + j14)), some (pvI j19), none, none, none]) (pc' := 165) dX11_value_162 rfl rfl g32 rfl ?_
            refine go_goto (t := 60) dX11_value_165 rfl ?_
            exact go_sub (ih j30 (y12 + 1) _ h hx) ⟨Or.inr rfl, Or.inr rfl, Or.inr rfl, Or.inr rfl, Or.inr rfl, Or.inr rfl, Or.inr rfl, Or.inr rfl, Or.inr rfl, Or.inl rfl, Or.inl rfl, Or.inr rfl, Or.inr rfl, Or.inr rfl, trivial⟩
          clear h
          have h := k31
          refine go_if_eq (t := 158) (pc' := 153) dX11_value_150 rfl rfl (fun c33 => ?_) (fun c33 => ?_)
          · rw [if_pos (show j19 = 0 from c33)] at h
            refine go_iload (pc' := 160) dX11_value_158 rfl rfl ?_
            cases h
            exact k31J
          · rw [if_neg (show ¬ (j19 = 0) from c33)] at h
            refine go_iload (pc' := 155) dX11_value_153 rfl rfl ?_
            refine go_goto (t := 160) dX11_value_155 rfl ?_
            cases h
            exact k31J
        clear h
        have h := k20
        refine go_icmp_ne (t := 145) (pc' := 105) dX11_value_102 rfl rfl (fun c34 => ?_) (fun c34 => ?_)
        · rw [if_pos (show (σ 131 ((12 * y12) + j14)) ≠ 2 from c34)] at h
          refine go_iconst (pc' := 146) dX11_value_145 rfl (r32_c rfl) ?_
          cases h
          exact k20J
        · rw [if_neg (show ¬ ((σ 131 ((12 * y12) + j14)) ≠ 2) from c34)] at h
          refine go_iload (pc' := 107) dX11_value_105 rfl rfl ?_
          refine go_if_lt (t := 141) (pc' := 110) dX11_value_107 rfl rfl (fun c29 => ?_) (fun c29 => ?_)
          · rw [if_pos (show y11 < 0 from c29)] at h
            refine go_iconst (pc' := 142) dX11_value_141 rfl (r32_c rfl) ?_
            refine go_goto (t := 146) dX11_value_142 rfl ?_
            cases h
            exact k20J
          · rw [if_neg (show ¬ (y11 < 0) from c29)] at h
            refine go_aload_n (pc' := 111) dX11_value_110 rfl rfl (Nat.le_of_ble_eq_true rfl) ?_
            refine go_getR (k' := 12) (L0 := 36) (P' := 135) (pc' := 114) dX11_value_111 rfl rf_11_27 rfl rfl (by omega) ?_
            refine go_iload (pc' := 116) dX11_value_114 rfl rfl ?_
            obtain ⟨g21, h⟩ := gd h
            refine go_iald (pc' := 117) dX11_value_116 rfl g21 ?_
            refine go_aload_n (pc' := 118) dX11_value_117 rfl rfl (Nat.le_of_ble_eq_true rfl) ?_
            refine go_getR (k' := 12) (L0 := 36) (P' := 135) (pc' := 121) dX11_value_118 rfl rf_11_27 rfl rfl (by omega) ?_
            refine go_bipush (pc' := 123) dX11_value_121 rfl (r32_c rfl) (by decide) ?_
            refine go_iload (pc' := 125) dX11_value_123 rfl rfl ?_
            obtain ⟨g22, h⟩ := gd h
            refine go_imul (pc' := 126) dX11_value_125 rfl g22 ?_
            refine go_iload (pc' := 128) dX11_value_126 rfl rfl ?_
            obtain ⟨j23, k24, h⟩ := bd h
            have k24J : Go none (Ev (d + F0 * 7 + 6)) mt209 136 [some (pvR 11 0 129), some (pvI x1), some (pvI x2), some (pvI x3), some (pvI x4), some (pvI x5), some (pvI ((((j1 + (576 * x1)) + (48 * x2)) + (4 * x3)) + x4)), some (pvI y11), some (pvI y12), some (pvI ((12 * y12) + j14)), none, none, none, none] [pvI j23, pvI (12 * y11), pvR 12 36 135, pvI (σ 135 ((12 * y12) + j14))] (true, n, e, σ) out := by
              obtain ⟨g25, h⟩ := gd h
              refine go_iadd (pc' := 137) dX11_value_136 rfl g25 ?_
              obtain ⟨g26, h⟩ := gd h
              refine go_iald (pc' := 138) dX11_value_137 rfl g26 ?_
              refine go_icmp_lt (t := 145) (pc' := 141) dX11_value_138 rfl rfl (fun c27 => ?_) (fun c27 => ?_)
              · rw [if_pos (show (σ 135 ((12 * y12) + j14)) < (σ 135 ((12 * y11) + j23)) from c27)] at h
                refine go_iconst (pc' := 146) dX11_value_145 rfl (r32_c rfl) ?_
                cases h
                exact k20J
              · rw [if_neg (show ¬ ((σ 135 ((12 * y12) + j14)) < (σ 135 ((12 * y11) + j23))) from c27)] at h
                refine go_iconst (pc' := 142) dX11_value_141 rfl (r32_c rfl) ?_
                refine go_goto (t := 146) dX11_value_142 rfl ?_
                cases h
                exact k20J
            clear h
            have h := k24
            refine go_if_ne (t := 135) (pc' := 131) dX11_value_128 rfl rfl (fun c28 => ?_) (fun c28 => ?_)
            · rw [if_pos (show y11 ≠ 0 from c28)] at h
              refine go_iload_n (pc' := 136) dX11_value_135 rfl rfl ?_
              cases h
              exact k24J
            · rw [if_neg (show ¬ (y11 ≠ 0) from c28)] at h
              refine go_iload_n (pc' := 132) dX11_value_131 rfl rfl ?_
              refine go_goto (t := 136) dX11_value_132 rfl ?_
              cases h
              exact k24J
      clear h
      have h := k15
      refine go_if_ne (t := 80) (pc' := 76) dX11_value_73 rfl rfl (fun c35 => ?_) (fun c35 => ?_)
      · rw [if_pos (show y12 ≠ 0 from c35)] at h
        refine go_iload (pc' := 82) dX11_value_80 rfl rfl ?_
        refine go_iconst (pc' := 83) dX11_value_82 rfl (r32_c rfl) ?_
        refine go_icmp_ne (t := 90) (pc' := 86) dX11_value_83 rfl rfl (fun c16 => ?_) (fun c16 => ?_)
        · rw [if_pos (show y12 ≠ 1 from c16)] at h
          refine go_iload_n (pc' := 91) dX11_value_90 rfl rfl ?_
          cases h
          exact k15J
        · rw [if_neg (show ¬ (y12 ≠ 1) from c16)] at h
          refine go_iload_n (pc' := 87) dX11_value_86 rfl rfl ?_
          refine go_goto (t := 91) dX11_value_87 rfl ?_
          cases h
          exact k15J
      · rw [if_neg (show ¬ (y12 ≠ 0) from c35)] at h
        refine go_iload_n (pc' := 77) dX11_value_76 rfl rfl ?_
        refine go_goto (t := 91) dX11_value_77 rfl ?_
        cases h
        exact k15J

set_option maxRecDepth 10000 in
theorem l_M_value : ∀ (F : Nat) (d n e : Nat) (σ : Hp) (x1 : Int) (x2 : Int) (x3 : Int) (x4 : Int) (x5 : Int) (r : Int × Hp), f_M_value F σ x1 x2 x3 x4 x5 = some r → Ev (d + F * 7) 209 [pvR 11 0 129, pvI x1, pvI x2, pvI x3, pvI x4, pvI x5] (true, n, e, σ) (0, some (pvL r.1), true, n, e, r.2) := by
  intro F
  induction F with
  | zero =>
    intro _ _ _ _ _ _ _ _ _ _ h
    rw [f_M_value] at h
    cases h
  | succ F ih =>
    intro d n e σ x1 x2 x3 x4 x5 r h
    rw [f_M_value] at h
    rw [show d + (F + 1) * 7 = d + F * 7 + 6 + 1 by omega]
    refine Ev.of mtE209 rfl rfl rfl rfl ?_
    show Go none (Ev (d + F * 7 + 6)) mt209 0 [some (pvR 11 0 129), some (pvI x1), some (pvI x2), some (pvI x3), some (pvI x4), some (pvI x5), none, none, none, none, none, none, none, none] [] (true, n, e, σ) (0, some (pvL r.1), true, n, e, r.2)
    refine go_iload (pc' := 2) dX11_value_0 rfl rfl ?_
    obtain ⟨j1, k2, h⟩ := bd h
    have k2J : Go none (Ev (d + F * 7 + 6)) mt209 12 [some (pvR 11 0 129), some (pvI x1), some (pvI x2), some (pvI x3), some (pvI x4), some (pvI x5), none, none, none, none, none, none, none, none] [pvI j1] (true, n, e, σ) (0, some (pvL r.1), true, n, e, r.2) := by
      refine go_sipush (pc' := 15) dX11_value_12 rfl (r32_c rfl) (by decide) ?_
      refine go_iload_n (pc' := 16) dX11_value_15 rfl rfl ?_
      obtain ⟨g3, h⟩ := gd h
      refine go_imul (pc' := 17) dX11_value_16 rfl g3 ?_
      obtain ⟨g4, h⟩ := gd h
      refine go_iadd (pc' := 18) dX11_value_17 rfl g4 ?_
      refine go_bipush (pc' := 20) dX11_value_18 rfl (r32_c rfl) (by decide) ?_
      refine go_iload_n (pc' := 21) dX11_value_20 rfl rfl ?_
      obtain ⟨g5, h⟩ := gd h
      refine go_imul (pc' := 22) dX11_value_21 rfl g5 ?_
      obtain ⟨g6, h⟩ := gd h
      refine go_iadd (pc' := 23) dX11_value_22 rfl g6 ?_
      refine go_iconst (pc' := 24) dX11_value_23 rfl (r32_c rfl) ?_
      refine go_iload_n (pc' := 25) dX11_value_24 rfl rfl ?_
      obtain ⟨g7, h⟩ := gd h
      refine go_imul (pc' := 26) dX11_value_25 rfl g7 ?_
      obtain ⟨g8, h⟩ := gd h
      refine go_iadd (pc' := 27) dX11_value_26 rfl g8 ?_
      refine go_iload (pc' := 29) dX11_value_27 rfl rfl ?_
      obtain ⟨g9, h⟩ := gd h
      refine go_iadd (pc' := 30) dX11_value_29 rfl g9 ?_
      refine go_istore (L' := [some (pvR 11 0 129), some (pvI x1), some (pvI x2), some (pvI x3), some (pvI x4), some (pvI x5), some (pvI ((((j1 + (576 * x1)) + (48 * x2)) + (4 * x3)) + x4)), none, none, none, none, none, none, none]) (pc' := 32) dX11_value_30 rfl (Nat.le_of_ble_eq_true rfl) rfl ?_
      refine go_aload_n (pc' := 33) dX11_value_32 rfl rfl (Nat.le_of_ble_eq_true rfl) ?_
      refine go_getR (k' := 12) (L0 := 13824) (P' := 161) (pc' := 36) dX11_value_33 rfl rf_11_110 rfl rfl (by omega) ?_
      refine go_iload (pc' := 38) dX11_value_36 rfl rfl ?_
      obtain ⟨g10, h⟩ := gd h
      refine go_iald (pc' := 39) dX11_value_38 rfl g10 ?_
      refine go_aload_n (pc' := 40) dX11_value_39 rfl rfl (Nat.le_of_ble_eq_true rfl) ?_
      refine go_getI (pc' := 43) dX11_value_40 rfl rf_11_113 rfl ?_
      refine go_icmp_ne (t := 54) (pc' := 46) dX11_value_43 rfl rfl (fun c90 => ?_) (fun c90 => ?_)
      · rw [if_pos (show (σ 161 ((((j1 + (576 * x1)) + (48 * x2)) + (4 * x3)) + x4)) ≠ (σ 129 38) from c90)] at h
        refine go_iconst (pc' := 55) dX11_value_54 rfl (r32_c rfl) ?_
        refine go_istore (L' := [some (pvR 11 0 129), some (pvI x1), some (pvI x2), some (pvI x3), some (pvI x4), some (pvI x5), some (pvI ((((j1 + (576 * x1)) + (48 * x2)) + (4 * x3)) + x4)), some (pvI (-1)), none, none, none, none, none, none]) (pc' := 57) dX11_value_55 rfl (Nat.le_of_ble_eq_true rfl) rfl ?_
        refine go_iconst (pc' := 58) dX11_value_57 rfl (r32_c rfl) ?_
        refine go_istore (L' := [some (pvR 11 0 129), some (pvI x1), some (pvI x2), some (pvI x3), some (pvI x4), some (pvI x5), some (pvI ((((j1 + (576 * x1)) + (48 * x2)) + (4 * x3)) + x4)), some (pvI (-1)), some (pvI 0), none, none, none, none, none]) (pc' := 60) dX11_value_58 rfl (Nat.le_of_ble_eq_true rfl) rfl ?_
        obtain ⟨j38, k39, h⟩ := bd h
        refine l_M_value_60 F d n e F σ x1 x2 x3 x4 x5 j1 zFuel (-1) 0 _ k39 ?_
        refine go_iload (pc' := 170) dX11_value_168 rfl rfl ?_
        obtain ⟨j40, k41, h⟩ := bd h
        have k41J : Go none (Ev (d + F * 7 + 6)) mt209 321 [some (pvR 11 0 129), some (pvI x1), some (pvI x2), some (pvI x3), some (pvI x4), some (pvI x5), some (pvI ((((j1 + (576 * x1)) + (48 * x2)) + (4 * x3)) + x4)), some (pvI j38.1), some (pvL j40.1), none, none, none, none, none] [] (true, n, e, j40.2) (0, some (pvL r.1), true, n, e, r.2) := by
          refine go_aload_n (pc' := 322) dX11_value_321 rfl rfl (Nat.le_of_ble_eq_true rfl) ?_
          refine go_getR (k' := 12) (L0 := 13824) (P' := 161) (pc' := 325) dX11_value_322 rfl rf_11_110 rfl rfl (by omega) ?_
          refine go_iload (pc' := 327) dX11_value_325 rfl rfl ?_
          refine go_aload_n (pc' := 328) dX11_value_327 rfl rfl (Nat.le_of_ble_eq_true rfl) ?_
          refine go_getI (pc' := 331) dX11_value_328 rfl rf_11_113 rfl ?_
          obtain ⟨g86, h⟩ := gd h
          refine go_iast (pc' := 332) dX11_value_331 rfl g86 ?_
          refine go_aload_n (pc' := 333) dX11_value_332 rfl rfl (Nat.le_of_ble_eq_true rfl) ?_
          refine go_getR (k' := 13) (L0 := 13824) (P' := 160) (pc' := 336) dX11_value_333 rfl rf_11_106 rfl rfl (by omega) ?_
          refine go_iload (pc' := 338) dX11_value_336 rfl rfl ?_
          refine go_lload (pc' := 340) dX11_value_338 rfl rfl ?_
          obtain ⟨g87, h⟩ := gd h
          refine go_last (pc' := 341) dX11_value_340 rfl g87 ?_
          refine go_lload (pc' := 343) dX11_value_341 rfl rfl ?_
          cases h
          exact go_lret dX11_value_343 rfl rfl
        clear h
        have h := k41
        refine go_if_lt (t := 191) (pc' := 173) dX11_value_170 rfl rfl (fun c88 => ?_) (fun c88 => ?_)
        · rw [if_pos (show j38.1 < 0 from c88)] at h
          refine go_iload (pc' := 193) dX11_value_191 rfl rfl ?_
          refine go_if_ne (t := 216) (pc' := 196) dX11_value_193 rfl rfl (fun c83 => ?_) (fun c83 => ?_)
          · rw [if_pos (show x5 ≠ 0 from c83)] at h
            refine go_aload_n (pc' := 217) dX11_value_216 rfl rfl (Nat.le_of_ble_eq_true rfl) ?_
            refine go_getR (k' := 12) (L0 := 4) (P' := 146) (pc' := 220) dX11_value_217 rfl rf_11_60 rfl rfl (by omega) ?_
            refine go_iload (pc' := 222) dX11_value_220 rfl rfl ?_
            obtain ⟨g42, h⟩ := gd h
            refine go_iald (pc' := 223) dX11_value_222 rfl g42 ?_
            refine go_iconst (pc' := 224) dX11_value_223 rfl (r32_c rfl) ?_
            refine go_icmp_ne (t := 310) (pc' := 227) dX11_value_224 rfl rfl (fun c60 => ?_) (fun c60 => ?_)
            · rw [if_pos (show (σ 146 x4) ≠ 3 from c60)] at h
              refine go_aload_n (pc' := 311) dX11_value_310 rfl rfl (Nat.le_of_ble_eq_true rfl) ?_
              refine go_iload_n (pc' := 312) dX11_value_311 rfl rfl ?_
              refine go_iload_n (pc' := 313) dX11_value_312 rfl rfl ?_
              refine go_iload_n (pc' := 314) dX11_value_313 rfl rfl ?_
              refine go_iload (pc' := 316) dX11_value_314 rfl rfl ?_
              obtain ⟨v43, k44, h⟩ := bd h
              have k44 := l_M_plain (d + F * 7 + 1) n e σ x1 x2 x3 x4 _ k44
              refine go_call (kc := 218) (Mc := mt218) (v := some (pvL v43)) (w' := (true, n, e, σ)) (pc' := 319) (st' := [pvL v43]) [pvR 11 0 129, pvI x1, pvI x2, pvI x3, pvI x4] [] (Or.inl rfl) dX11_value_316 rfl rm_11_285 mtE218 rfl rfl rfl (Nat.le_of_ble_eq_true rfl) (Or.inr ⟨_, _, 129, rfl, Or.inl rfl⟩) k44 rfl ?_
              refine go_lstore (L' := [some (pvR 11 0 129), some (pvI x1), some (pvI x2), some (pvI x3), some (pvI x4), some (pvI x5), some (pvI ((((j1 + (576 * x1)) + (48 * x2)) + (4 * x3)) + x4)), some (pvI j38.1), some (pvL v43), none, none, none, none, none]) (pc' := 321) dX11_value_319 rfl (Nat.le_of_ble_eq_true rfl) rfl ?_
              cases h
              exact k41J
            · rw [if_neg (show ¬ ((σ 146 x4) ≠ 3) from c60)] at h
              refine go_aload_n (pc' := 228) dX11_value_227 rfl rfl (Nat.le_of_ble_eq_true rfl) ?_
              refine go_iload_n (pc' := 229) dX11_value_228 rfl rfl ?_
              refine go_iload_n (pc' := 230) dX11_value_229 rfl rfl ?_
              refine go_iload_n (pc' := 231) dX11_value_230 rfl rfl ?_
              refine go_aload_n (pc' := 232) dX11_value_231 rfl rfl (Nat.le_of_ble_eq_true rfl) ?_
              refine go_getR (k' := 12) (L0 := 4) (P' := 147) (pc' := 235) dX11_value_232 rfl rf_11_63 rfl rfl (by omega) ?_
              refine go_iload (pc' := 237) dX11_value_235 rfl rfl ?_
              obtain ⟨g45, h⟩ := gd h
              refine go_iald (pc' := 238) dX11_value_237 rfl g45 ?_
              refine go_iconst (pc' := 239) dX11_value_238 rfl (r32_c rfl) ?_
              obtain ⟨v46, k47, h⟩ := bd h
              have k47 := (by have z := ih (d + 6) n e σ x1 x2 x3 (σ 147 x4) 1 _ k47; rwa [show d + 6 + F * 7 = d + F * 7 + 6 by omega] at z)
              refine go_call (kc := 209) (Mc := mt209) (v := some (pvL v46.1)) (w' := (true, n, e, v46.2)) (pc' := 242) (st' := [pvL v46.1]) [pvR 11 0 129, pvI x1, pvI x2, pvI x3, pvI (σ 147 x4), pvI 1] [] (Or.inl rfl) dX11_value_239 rfl rm_11_275 mtE209 rfl rfl rfl (Nat.le_of_ble_eq_true rfl) (Or.inr ⟨_, _, 129, rfl, Or.inl rfl⟩) k47 rfl ?_
              refine go_lstore (L' := [some (pvR 11 0 129), some (pvI x1), some (pvI x2), some (pvI x3), some (pvI x4), some (pvI x5), some (pvI ((((j1 + (576 * x1)) + (48 * x2)) + (4 * x3)) + x4)), some (pvI j38.1), some (pvI j38.2), none, some (pvL v46.1), none, none, none]) (pc' := 244) dX11_value_242 rfl (Nat.le_of_ble_eq_true rfl) rfl ?_
              refine go_aload_n (pc' := 245) dX11_value_244 rfl rfl (Nat.le_of_ble_eq_true rfl) ?_
              refine go_iload_n (pc' := 246) dX11_value_245 rfl rfl ?_
              refine go_iload_n (pc' := 247) dX11_value_246 rfl rfl ?_
              refine go_iload_n (pc' := 248) dX11_value_247 rfl rfl ?_
              refine go_aload_n (pc' := 249) dX11_value_248 rfl rfl (Nat.le_of_ble_eq_true rfl) ?_
              refine go_getR (k' := 12) (L0 := 4) (P' := 148) (pc' := 252) dX11_value_249 rfl rf_11_66 rfl rfl (by omega) ?_
              refine go_iload (pc' := 254) dX11_value_252 rfl rfl ?_
              obtain ⟨g48, h⟩ := gd h
              refine go_iald (pc' := 255) dX11_value_254 rfl g48 ?_
              refine go_iconst (pc' := 256) dX11_value_255 rfl (r32_c rfl) ?_
              obtain ⟨v49, k50, h⟩ := bd h
              have k50 := (by have z := ih (d + 6) n e v46.2 x1 x2 x3 (v46.2 148 x4) 1 _ k50; rwa [show d + 6 + F * 7 = d + F * 7 + 6 by omega] at z)
              refine go_call (kc := 209) (Mc := mt209) (v := some (pvL v49.1)) (w' := (true, n, e, v49.2)) (pc' := 259) (st' := [pvL v49.1]) [pvR 11 0 129, pvI x1, pvI x2, pvI x3, pvI (v46.2 148 x4), pvI 1] [] (Or.inl rfl) dX11_value_256 rfl rm_11_275 mtE209 rfl rfl rfl (Nat.le_of_ble_eq_true rfl) (Or.inr ⟨_, _, 129, rfl, Or.inl rfl⟩) k50 rfl ?_
              refine go_lstore (L' := [some (pvR 11 0 129), some (pvI x1), some (pvI x2), some (pvI x3), some (pvI x4), some (pvI x5), some (pvI ((((j1 + (576 * x1)) + (48 * x2)) + (4 * x3)) + x4)), some (pvI j38.1), some (pvI j38.2), none, some (pvL v46.1), none, some (pvL v49.1), none]) (pc' := 261) dX11_value_259 rfl (Nat.le_of_ble_eq_true rfl) rfl ?_
              refine go_lload (pc' := 263) dX11_value_261 rfl rfl ?_
              refine go_ldc2 (pc' := 266) dX11_value_263 rfl (r64_c rfl) rc_11_262 ?_
              refine go_lcmp (pc' := 267) dX11_value_266 rfl ?_
              obtain ⟨j51, k52, h⟩ := bd h
              have k52J : Go none (Ev (d + F * 7 + 6)) mt209 305 [some (pvR 11 0 129), some (pvI x1), some (pvI x2), some (pvI x3), some (pvI x4), some (pvI x5), some (pvI ((((j1 + (576 * x1)) + (48 * x2)) + (4 * x3)) + x4)), some (pvI j38.1), some (pvI j38.2), none, some (pvL v46.1), none, some (pvL v49.1), none] [pvL j51] (true, n, e, v49.2) (0, some (pvL r.1), true, n, e, r.2) := by
                refine go_lstore (L' := [some (pvR 11 0 129), some (pvI x1), some (pvI x2), some (pvI x3), some (pvI x4), some (pvI x5), some (pvI ((((j1 + (576 * x1)) + (48 * x2)) + (4 * x3)) + x4)), some (pvI j38.1), some (pvL j51), none, some (pvL v46.1), none, some (pvL v49.1), none]) (pc' := 307) dX11_value_305 rfl (Nat.le_of_ble_eq_true rfl) rfl ?_
                refine go_goto (t := 321) dX11_value_307 rfl ?_
                cases h
                exact go_sub k41J ⟨Or.inr rfl, Or.inr rfl, Or.inr rfl, Or.inr rfl, Or.inr rfl, Or.inr rfl, Or.inr rfl, Or.inr rfl, Or.inr rfl, Or.inr rfl, Or.inl rfl, Or.inr rfl, Or.inl rfl, Or.inr rfl, trivial⟩
              clear h
              have h := k52
              refine go_if_eq (t := 286) (pc' := 270) dX11_value_267 rfl rfl (fun c59 => ?_) (fun c59 => ?_)
              · rw [if_pos (show (lcm v46.1 (-9223372036854775808)) = 0 from c59)] at h
                refine go_ldc2 (pc' := 289) dX11_value_286 rfl (r64_c rfl) rc_11_262 ?_
                refine go_goto (t := 305) dX11_value_289 rfl ?_
                cases h
                exact k52J
              · rw [if_neg (show ¬ ((lcm v46.1 (-9223372036854775808)) = 0) from c59)] at h
                refine go_lload (pc' := 272) dX11_value_270 rfl rfl ?_
                refine go_ldc2 (pc' := 275) dX11_value_272 rfl (r64_c rfl) rc_11_262 ?_
                refine go_lcmp (pc' := 276) dX11_value_275 rfl ?_
                refine go_if_eq (t := 286) (pc' := 279) dX11_value_276 rfl rfl (fun c58 => ?_) (fun c58 => ?_)
                · rw [if_pos (show (lcm v49.1 (-9223372036854775808)) = 0 from c58)] at h
                  refine go_ldc2 (pc' := 289) dX11_value_286 rfl (r64_c rfl) rc_11_262 ?_
                  refine go_goto (t := 305) dX11_value_289 rfl ?_
                  cases h
                  exact k52J
                · rw [if_neg (show ¬ ((lcm v49.1 (-9223372036854775808)) = 0) from c58)] at h
                  refine go_lload (pc' := 281) dX11_value_279 rfl rfl ?_
                  refine go_lconst (z := 0) (pc' := 282) dX11_value_281 rfl rfl ?_
                  refine go_lcmp (pc' := 283) dX11_value_282 rfl ?_
                  refine go_if_ne (t := 292) (pc' := 286) dX11_value_283 rfl rfl (fun c57 => ?_) (fun c57 => ?_)
                  · rw [if_pos (show (lcm v49.1 0) ≠ 0 from c57)] at h
                    refine go_aload_n (pc' := 293) dX11_value_292 rfl rfl (Nat.le_of_ble_eq_true rfl) ?_
                    refine go_ldc2 (pc' := 296) dX11_value_293 rfl (r64_c rfl) rc_11_279 ?_
                    refine go_lload (pc' := 298) dX11_value_296 rfl rfl ?_
                    obtain ⟨g53, h⟩ := gd h
                    refine go_lmul (pc' := 299) dX11_value_298 rfl g53 ?_
                    refine go_lload (pc' := 301) dX11_value_299 rfl rfl ?_
                    obtain ⟨g54, h⟩ := gd h
                    refine go_ldiv (pc' := 302) dX11_value_301 rfl g54 ?_
                    obtain ⟨v55, k56, h⟩ := bd h
                    have k56 := l_M_bound (d + F * 7 + 5) n e v49.2 (Int.tdiv (1000 * v46.1) v49.1) _ k56
                    refine go_call (kc := 213) (Mc := mt213) (v := some (pvL v55)) (w' := (true, n, e, v49.2)) (pc' := 305) (st' := [pvL v55]) [pvR 11 0 129, pvL (Int.tdiv (1000 * v46.1) v49.1)] [] (Or.inl rfl) dX11_value_302 rfl rm_11_281 mtE213 rfl rfl rfl (Nat.le_of_ble_eq_true rfl) (Or.inr ⟨_, _, 129, rfl, Or.inl rfl⟩) k56 rfl ?_
                    cases h
                    exact k52J
                  · rw [if_neg (show ¬ ((lcm v49.1 0) ≠ 0) from c57)] at h
                    refine go_ldc2 (pc' := 289) dX11_value_286 rfl (r64_c rfl) rc_11_262 ?_
                    refine go_goto (t := 305) dX11_value_289 rfl ?_
                    cases h
                    exact k52J
          · rw [if_neg (show ¬ (x5 ≠ 0) from c83)] at h
            refine go_aload_n (pc' := 197) dX11_value_196 rfl rfl (Nat.le_of_ble_eq_true rfl) ?_
            refine go_iload_n (pc' := 198) dX11_value_197 rfl rfl ?_
            refine go_iload_n (pc' := 199) dX11_value_198 rfl rfl ?_
            refine go_iload_n (pc' := 200) dX11_value_199 rfl rfl ?_
            refine go_iload (pc' := 202) dX11_value_200 rfl rfl ?_
            obtain ⟨v61, k62, h⟩ := bd h
            have k62 := l_M_isNothing (d + F * 7 + 2) n e σ x1 x2 x3 x4 _ k62
            refine go_call (kc := 217) (Mc := mt217) (v := some (pvI v61)) (w' := (true, n, e, σ)) (pc' := 205) (st' := [pvI v61]) [pvR 11 0 129, pvI x1, pvI x2, pvI x3, pvI x4] [] (Or.inl rfl) dX11_value_202 rfl rm_11_272 mtE217 rfl rfl rfl (Nat.le_of_ble_eq_true rfl) (Or.inr ⟨_, _, 129, rfl, Or.inl rfl⟩) k62 rfl ?_
            refine go_if_eq (t := 216) (pc' := 208) dX11_value_205 rfl rfl (fun c82 => ?_) (fun c82 => ?_)
            · rw [if_pos (show v61 = 0 from c82)] at h
              refine go_aload_n (pc' := 217) dX11_value_216 rfl rfl (Nat.le_of_ble_eq_true rfl) ?_
              refine go_getR (k' := 12) (L0 := 4) (P' := 146) (pc' := 220) dX11_value_217 rfl rf_11_60 rfl rfl (by omega) ?_
              refine go_iload (pc' := 222) dX11_value_220 rfl rfl ?_
              obtain ⟨g63, h⟩ := gd h
              refine go_iald (pc' := 223) dX11_value_222 rfl g63 ?_
              refine go_iconst (pc' := 224) dX11_value_223 rfl (r32_c rfl) ?_
              refine go_icmp_ne (t := 310) (pc' := 227) dX11_value_224 rfl rfl (fun c81 => ?_) (fun c81 => ?_)
              · rw [if_pos (show (σ 146 x4) ≠ 3 from c81)] at h
                refine go_aload_n (pc' := 311) dX11_value_310 rfl rfl (Nat.le_of_ble_eq_true rfl) ?_
                refine go_iload_n (pc' := 312) dX11_value_311 rfl rfl ?_
                refine go_iload_n (pc' := 313) dX11_value_312 rfl rfl ?_
                refine go_iload_n (pc' := 314) dX11_value_313 rfl rfl ?_
                refine go_iload (pc' := 316) dX11_value_314 rfl rfl ?_
                obtain ⟨v64, k65, h⟩ := bd h
                have k65 := l_M_plain (d + F * 7 + 1) n e σ x1 x2 x3 x4 _ k65
                refine go_call (kc := 218) (Mc := mt218) (v := some (pvL v64)) (w' := (true, n, e, σ)) (pc' := 319) (st' := [pvL v64]) [pvR 11 0 129, pvI x1, pvI x2, pvI x3, pvI x4] [] (Or.inl rfl) dX11_value_316 rfl rm_11_285 mtE218 rfl rfl rfl (Nat.le_of_ble_eq_true rfl) (Or.inr ⟨_, _, 129, rfl, Or.inl rfl⟩) k65 rfl ?_
                refine go_lstore (L' := [some (pvR 11 0 129), some (pvI x1), some (pvI x2), some (pvI x3), some (pvI x4), some (pvI x5), some (pvI ((((j1 + (576 * x1)) + (48 * x2)) + (4 * x3)) + x4)), some (pvI j38.1), some (pvL v64), none, none, none, none, none]) (pc' := 321) dX11_value_319 rfl (Nat.le_of_ble_eq_true rfl) rfl ?_
                cases h
                exact k41J
              · rw [if_neg (show ¬ ((σ 146 x4) ≠ 3) from c81)] at h
                refine go_aload_n (pc' := 228) dX11_value_227 rfl rfl (Nat.le_of_ble_eq_true rfl) ?_
                refine go_iload_n (pc' := 229) dX11_value_228 rfl rfl ?_
                refine go_iload_n (pc' := 230) dX11_value_229 rfl rfl ?_
                refine go_iload_n (pc' := 231) dX11_value_230 rfl rfl ?_
                refine go_aload_n (pc' := 232) dX11_value_231 rfl rfl (Nat.le_of_ble_eq_true rfl) ?_
                refine go_getR (k' := 12) (L0 := 4) (P' := 147) (pc' := 235) dX11_value_232 rfl rf_11_63 rfl rfl (by omega) ?_
                refine go_iload (pc' := 237) dX11_value_235 rfl rfl ?_
                obtain ⟨g66, h⟩ := gd h
                refine go_iald (pc' := 238) dX11_value_237 rfl g66 ?_
                refine go_iconst (pc' := 239) dX11_value_238 rfl (r32_c rfl) ?_
                obtain ⟨v67, k68, h⟩ := bd h
                have k68 := (by have z := ih (d + 6) n e σ x1 x2 x3 (σ 147 x4) 1 _ k68; rwa [show d + 6 + F * 7 = d + F * 7 + 6 by omega] at z)
                refine go_call (kc := 209) (Mc := mt209) (v := some (pvL v67.1)) (w' := (true, n, e, v67.2)) (pc' := 242) (st' := [pvL v67.1]) [pvR 11 0 129, pvI x1, pvI x2, pvI x3, pvI (σ 147 x4), pvI 1] [] (Or.inl rfl) dX11_value_239 rfl rm_11_275 mtE209 rfl rfl rfl (Nat.le_of_ble_eq_true rfl) (Or.inr ⟨_, _, 129, rfl, Or.inl rfl⟩) k68 rfl ?_
                refine go_lstore (L' := [some (pvR 11 0 129), some (pvI x1), some (pvI x2), some (pvI x3), some (pvI x4), some (pvI x5), some (pvI ((((j1 + (576 * x1)) + (48 * x2)) + (4 * x3)) + x4)), some (pvI j38.1), some (pvI j38.2), none, some (pvL v67.1), none, none, none]) (pc' := 244) dX11_value_242 rfl (Nat.le_of_ble_eq_true rfl) rfl ?_
                refine go_aload_n (pc' := 245) dX11_value_244 rfl rfl (Nat.le_of_ble_eq_true rfl) ?_
                refine go_iload_n (pc' := 246) dX11_value_245 rfl rfl ?_
                refine go_iload_n (pc' := 247) dX11_value_246 rfl rfl ?_
                refine go_iload_n (pc' := 248) dX11_value_247 rfl rfl ?_
                refine go_aload_n (pc' := 249) dX11_value_248 rfl rfl (Nat.le_of_ble_eq_true rfl) ?_
                refine go_getR (k' := 12) (L0 := 4) (P' := 148) (pc' := 252) dX11_value_249 rfl rf_11_66 rfl rfl (by omega) ?_
                refine go_iload (pc' := 254) dX11_value_252 rfl rfl ?_
                obtain ⟨g69, h⟩ := gd h
                refine go_iald (pc' := 255) dX11_value_254 rfl g69 ?_
                refine go_iconst (pc' := 256) dX11_value_255 rfl (r32_c rfl) ?_
                obtain ⟨v70, k71, h⟩ := bd h
                have k71 := (by have z := ih (d + 6) n e v67.2 x1 x2 x3 (v67.2 148 x4) 1 _ k71; rwa [show d + 6 + F * 7 = d + F * 7 + 6 by omega] at z)
                refine go_call (kc := 209) (Mc := mt209) (v := some (pvL v70.1)) (w' := (true, n, e, v70.2)) (pc' := 259) (st' := [pvL v70.1]) [pvR 11 0 129, pvI x1, pvI x2, pvI x3, pvI (v67.2 148 x4), pvI 1] [] (Or.inl rfl) dX11_value_256 rfl rm_11_275 mtE209 rfl rfl rfl (Nat.le_of_ble_eq_true rfl) (Or.inr ⟨_, _, 129, rfl, Or.inl rfl⟩) k71 rfl ?_
                refine go_lstore (L' := [some (pvR 11 0 129), some (pvI x1), some (pvI x2), some (pvI x3), some (pvI x4), some (pvI x5), some (pvI ((((j1 + (576 * x1)) + (48 * x2)) + (4 * x3)) + x4)), some (pvI j38.1), some (pvI j38.2), none, some (pvL v67.1), none, some (pvL v70.1), none]) (pc' := 261) dX11_value_259 rfl (Nat.le_of_ble_eq_true rfl) rfl ?_
                refine go_lload (pc' := 263) dX11_value_261 rfl rfl ?_
                refine go_ldc2 (pc' := 266) dX11_value_263 rfl (r64_c rfl) rc_11_262 ?_
                refine go_lcmp (pc' := 267) dX11_value_266 rfl ?_
                obtain ⟨j72, k73, h⟩ := bd h
                have k73J : Go none (Ev (d + F * 7 + 6)) mt209 305 [some (pvR 11 0 129), some (pvI x1), some (pvI x2), some (pvI x3), some (pvI x4), some (pvI x5), some (pvI ((((j1 + (576 * x1)) + (48 * x2)) + (4 * x3)) + x4)), some (pvI j38.1), some (pvI j38.2), none, some (pvL v67.1), none, some (pvL v70.1), none] [pvL j72] (true, n, e, v70.2) (0, some (pvL r.1), true, n, e, r.2) := by
                  refine go_lstore (L' := [some (pvR 11 0 129), some (pvI x1), some (pvI x2), some (pvI x3), some (pvI x4), some (pvI x5), some (pvI ((((j1 + (576 * x1)) + (48 * x2)) + (4 * x3)) + x4)), some (pvI j38.1), some (pvL j72), none, some (pvL v67.1), none, some (pvL v70.1), none]) (pc' := 307) dX11_value_305 rfl (Nat.le_of_ble_eq_true rfl) rfl ?_
                  refine go_goto (t := 321) dX11_value_307 rfl ?_
                  cases h
                  exact go_sub k41J ⟨Or.inr rfl, Or.inr rfl, Or.inr rfl, Or.inr rfl, Or.inr rfl, Or.inr rfl, Or.inr rfl, Or.inr rfl, Or.inr rfl, Or.inr rfl, Or.inl rfl, Or.inr rfl, Or.inl rfl, Or.inr rfl, trivial⟩
                clear h
                have h := k73
                refine go_if_eq (t := 286) (pc' := 270) dX11_value_267 rfl rfl (fun c80 => ?_) (fun c80 => ?_)
                · rw [if_pos (show (lcm v67.1 (-9223372036854775808)) = 0 from c80)] at h
                  refine go_ldc2 (pc' := 289) dX11_value_286 rfl (r64_c rfl) rc_11_262 ?_
                  refine go_goto (t := 305) dX11_value_289 rfl ?_
                  cases h
                  exact k73J
                · rw [if_neg (show ¬ ((lcm v67.1 (-9223372036854775808)) = 0) from c80)] at h
                  refine go_lload (pc' := 272) dX11_value_270 rfl rfl ?_
                  refine go_ldc2 (pc' := 275) dX11_value_272 rfl (r64_c rfl) rc_11_262 ?_
                  refine go_lcmp (pc' := 276) dX11_value_275 rfl ?_
                  refine go_if_eq (t := 286) (pc' := 279) dX11_value_276 rfl rfl (fun c79 => ?_) (fun c79 => ?_)
                  · rw [if_pos (show (lcm v70.1 (-9223372036854775808)) = 0 from c79)] at h
                    refine go_ldc2 (pc' := 289) dX11_value_286 rfl (r64_c rfl) rc_11_262 ?_
                    refine go_goto (t := 305) dX11_value_289 rfl ?_
                    cases h
                    exact k73J
                  · rw [if_neg (show ¬ ((lcm v70.1 (-9223372036854775808)) = 0) from c79)] at h
                    refine go_lload (pc' := 281) dX11_value_279 rfl rfl ?_
                    refine go_lconst (z := 0) (pc' := 282) dX11_value_281 rfl rfl ?_
                    refine go_lcmp (pc' := 283) dX11_value_282 rfl ?_
                    refine go_if_ne (t := 292) (pc' := 286) dX11_value_283 rfl rfl (fun c78 => ?_) (fun c78 => ?_)
                    · rw [if_pos (show (lcm v70.1 0) ≠ 0 from c78)] at h
                      refine go_aload_n (pc' := 293) dX11_value_292 rfl rfl (Nat.le_of_ble_eq_true rfl) ?_
                      refine go_ldc2 (pc' := 296) dX11_value_293 rfl (r64_c rfl) rc_11_279 ?_
                      refine go_lload (pc' := 298) dX11_value_296 rfl rfl ?_
                      obtain ⟨g74, h⟩ := gd h
                      refine go_lmul (pc' := 299) dX11_value_298 rfl g74 ?_
                      refine go_lload (pc' := 301) dX11_value_299 rfl rfl ?_
                      obtain ⟨g75, h⟩ := gd h
                      refine go_ldiv (pc' := 302) dX11_value_301 rfl g75 ?_
                      obtain ⟨v76, k77, h⟩ := bd h
                      have k77 := l_M_bound (d + F * 7 + 5) n e v70.2 (Int.tdiv (1000 * v67.1) v70.1) _ k77
                      refine go_call (kc := 213) (Mc := mt213) (v := some (pvL v76)) (w' := (true, n, e, v70.2)) (pc' := 305) (st' := [pvL v76]) [pvR 11 0 129, pvL (Int.tdiv (1000 * v67.1) v70.1)] [] (Or.inl rfl) dX11_value_302 rfl rm_11_281 mtE213 rfl rfl rfl (Nat.le_of_ble_eq_true rfl) (Or.inr ⟨_, _, 129, rfl, Or.inl rfl⟩) k77 rfl ?_
                      cases h
                      exact k73J
                    · rw [if_neg (show ¬ ((lcm v70.1 0) ≠ 0) from c78)] at h
                      refine go_ldc2 (pc' := 289) dX11_value_286 rfl (r64_c rfl) rc_11_262 ?_
                      refine go_goto (t := 305) dX11_value_289 rfl ?_
                      cases h
                      exact k73J
            · rw [if_neg (show ¬ (v61 = 0) from c82)] at h
              refine go_ldc2 (pc' := 211) dX11_value_208 rfl (r64_c rfl) rc_11_262 ?_
              refine go_lstore (L' := [some (pvR 11 0 129), some (pvI x1), some (pvI x2), some (pvI x3), some (pvI x4), some (pvI x5), some (pvI ((((j1 + (576 * x1)) + (48 * x2)) + (4 * x3)) + x4)), some (pvI j38.1), some (pvL (-9223372036854775808)), none, none, none, none, none]) (pc' := 213) dX11_value_211 rfl (Nat.le_of_ble_eq_true rfl) rfl ?_
              refine go_goto (t := 321) dX11_value_213 rfl ?_
              cases h
              exact k41J
        · rw [if_neg (show ¬ (j38.1 < 0) from c88)] at h
          refine go_aload_n (pc' := 174) dX11_value_173 rfl rfl (Nat.le_of_ble_eq_true rfl) ?_
          refine go_iload (pc' := 176) dX11_value_174 rfl rfl ?_
          refine go_iload_n (pc' := 177) dX11_value_176 rfl rfl ?_
          refine go_iload_n (pc' := 178) dX11_value_177 rfl rfl ?_
          refine go_iload_n (pc' := 179) dX11_value_178 rfl rfl ?_
          refine go_iload (pc' := 181) dX11_value_179 rfl rfl ?_
          refine go_iload (pc' := 183) dX11_value_181 rfl rfl ?_
          obtain ⟨v84, k85, h⟩ := bd h
          have k85 := l_M_formula (f_M_value F) (F * 7) (ih) (d + 0) n e σ j38.1 x1 x2 x3 x4 x5 _ k85
          refine go_call (kc := 210) (Mc := mt210) (v := some (pvL v84.1)) (w' := (true, n, e, v84.2)) (pc' := 186) (st' := [pvL v84.1]) [pvR 11 0 129, pvI j38.1, pvI x1, pvI x2, pvI x3, pvI x4, pvI x5] [] (Or.inl rfl) dX11_value_183 rfl rm_11_268 mtE210 rfl rfl rfl (Nat.le_of_ble_eq_true rfl) (Or.inr ⟨_, _, 129, rfl, Or.inl rfl⟩) k85 rfl ?_
          refine go_lstore (L' := [some (pvR 11 0 129), some (pvI x1), some (pvI x2), some (pvI x3), some (pvI x4), some (pvI x5), some (pvI ((((j1 + (576 * x1)) + (48 * x2)) + (4 * x3)) + x4)), some (pvI j38.1), some (pvL v84.1), none, none, none, none, none]) (pc' := 188) dX11_value_186 rfl (Nat.le_of_ble_eq_true rfl) rfl ?_
          refine go_goto (t := 321) dX11_value_188 rfl ?_
          cases h
          exact k41J
      · rw [if_neg (show ¬ ((σ 161 ((((j1 + (576 * x1)) + (48 * x2)) + (4 * x3)) + x4)) ≠ (σ 129 38)) from c90)] at h
        refine go_aload_n (pc' := 47) dX11_value_46 rfl rfl (Nat.le_of_ble_eq_true rfl) ?_
        refine go_getR (k' := 13) (L0 := 13824) (P' := 160) (pc' := 50) dX11_value_47 rfl rf_11_106 rfl rfl (by omega) ?_
        refine go_iload (pc' := 52) dX11_value_50 rfl rfl ?_
        obtain ⟨g89, h⟩ := gd h
        refine go_lald (pc' := 53) dX11_value_52 rfl g89 ?_
        cases h
        exact go_lret dX11_value_53 rfl rfl
    clear h
    have h := k2
    refine go_if_eq (t := 11) (pc' := 5) dX11_value_2 rfl rfl (fun c91 => ?_) (fun c91 => ?_)
    · rw [if_pos (show x5 = 0 from c91)] at h
      refine go_iconst (pc' := 12) dX11_value_11 rfl (r32_c rfl) ?_
      cases h
      exact k2J
    · rw [if_neg (show ¬ (x5 = 0) from c91)] at h
      refine go_sipush (pc' := 8) dX11_value_5 rfl (r32_c rfl) (by decide) ?_
      refine go_goto (t := 12) dX11_value_8 rfl ?_
      cases h
      exact k2J

set_option maxRecDepth 10000 in
theorem l_M_cell_64 (d : Nat) (n : Nat) (e : Nat) (x1 : Int) (x2 : Int) (x3 : Int) (x4 : Int) (v5 : Int × Hp) : ∀ (F : Nat) (y15 : Int) (r : Int × Hp), f_M_cell_64 x1 x2 x3 x4 v5 F y15 = some r → Go none (Ev (d + 280)) mt207 64 [some (pvR 11 0 129), some (pvI x1), some (pvI x2), some (pvI x3), some (pvI x4), some (pvI ((((576 * x1) + (48 * x2)) + (4 * x3)) + x4)), some (pvI y15)] [] (true, n, e, v5.2) (0, some (pvL r.1), true, n, e, r.2) := by
  intro F
  induction F with
  | zero =>
    intro _ _ h
    rw [f_M_cell_64] at h
    cases h
  | succ F ih =>
    intro y15 r h
    rw [f_M_cell_64] at h
    refine go_iload (pc' := 66) dX11_cell_64 rfl rfl ?_
    refine go_aload_n (pc' := 67) dX11_cell_66 rfl rfl (Nat.le_of_ble_eq_true rfl) ?_
    refine go_getI (pc' := 70) dX11_cell_67 rfl rf_11_163 rfl ?_
    refine go_icmp_ge (t := 112) (pc' := 73) dX11_cell_70 rfl rfl (fun c31 => ?_) (fun c31 => ?_)
    · rw [if_pos (show (v5.2 129 40) ≤ y15 from c31)] at h
      refine go_aload_n (pc' := 113) dX11_cell_112 rfl rfl (Nat.le_of_ble_eq_true rfl) ?_
      refine go_getR (k' := 12) (L0 := 21) (P' := 162) (pc' := 116) dX11_cell_113 rfl rf_11_116 rfl rfl (by omega) ?_
      refine go_aload_n (pc' := 117) dX11_cell_116 rfl rfl (Nat.le_of_ble_eq_true rfl) ?_
      refine go_getI (pc' := 120) dX11_cell_117 rfl rf_11_163 rfl ?_
      refine go_iload (pc' := 122) dX11_cell_120 rfl rfl ?_
      obtain ⟨g16, h⟩ := gd h
      refine go_iast (pc' := 123) dX11_cell_122 rfl g16 ?_
      refine go_aload_n (pc' := 124) dX11_cell_123 rfl rfl (Nat.le_of_ble_eq_true rfl) ?_
      refine go_dup (pc' := 125) dX11_cell_124 rfl (Nat.ne_of_beq_eq_false rfl) ?_
      refine go_getI (pc' := 128) dX11_cell_125 rfl rf_11_163 rfl ?_
      refine go_iconst (pc' := 129) dX11_cell_128 rfl (r32_c rfl) ?_
      obtain ⟨g17, h⟩ := gd h
      refine go_iadd (pc' := 130) dX11_cell_129 rfl g17 ?_
      refine go_putI (pc' := 133) dX11_cell_130 rfl rf_11_163 rfl ?_
      refine go_aload_n (pc' := 134) dX11_cell_133 rfl rfl (Nat.le_of_ble_eq_true rfl) ?_
      refine go_getI (pc' := 137) dX11_cell_134 rfl rf_11_163 rfl ?_
      refine go_bipush (pc' := 139) dX11_cell_137 rfl (r32_c rfl) (by decide) ?_
      obtain ⟨j18, k19, h⟩ := bd h
      have k19J : Go none (Ev (d + 280)) mt207 147 [some (pvR 11 0 129), some (pvI x1), some (pvI x2), some (pvI x3), some (pvI x4), some (pvI ((((576 * x1) + (48 * x2)) + (4 * x3)) + x4)), some (pvI y15)] [] (true, n, e, j18) (0, some (pvL r.1), true, n, e, r.2) := by
        refine go_aload_n (pc' := 148) dX11_cell_147 rfl rfl (Nat.le_of_ble_eq_true rfl) ?_
        refine go_iload_n (pc' := 149) dX11_cell_148 rfl rfl ?_
        refine go_iload_n (pc' := 150) dX11_cell_149 rfl rfl ?_
        refine go_iload_n (pc' := 151) dX11_cell_150 rfl rfl ?_
        refine go_iload (pc' := 153) dX11_cell_151 rfl rfl ?_
        refine go_iconst (pc' := 154) dX11_cell_153 rfl (r32_c rfl) ?_
        obtain ⟨v22, k23, h⟩ := bd h
        have k23 := l_M_value zDeep (d + 0) n e j18 x1 x2 x3 x4 0 _ k23
        refine go_call (kc := 209) (Mc := mt209) (v := some (pvL v22.1)) (w' := (true, n, e, v22.2)) (pc' := 157) (st' := [pvL v22.1]) [pvR 11 0 129, pvI x1, pvI x2, pvI x3, pvI x4, pvI 0] [] (Or.inl rfl) dX11_cell_154 rfl rm_11_275 mtE209 rfl rfl rfl (Nat.le_of_ble_eq_true rfl) (Or.inr ⟨_, _, 129, rfl, Or.inl rfl⟩) k23 rfl ?_
        cases h
        exact go_lret dX11_cell_157 rfl rfl
      clear h
      have h := k19
      refine go_icmp_le (t := 147) (pc' := 142) dX11_cell_139 rfl rfl (fun c24 => ?_) (fun c24 => ?_)
      · rw [if_pos (show ((hset (hset v5.2 162 (v5.2 129 40) ((((576 * x1) + (48 * x2)) + (4 * x3)) + x4)) 129 40 (((hset v5.2 162 (v5.2 129 40) ((((576 * x1) + (48 * x2)) + (4 * x3)) + x4)) 129 40) + 1)) 129 40) ≤ 20 from c24)] at h
        cases h
        exact k19J
      · rw [if_neg (show ¬ (((hset (hset v5.2 162 (v5.2 129 40) ((((576 * x1) + (48 * x2)) + (4 * x3)) + x4)) 129 40 (((hset v5.2 162 (v5.2 129 40) ((((576 * x1) + (48 * x2)) + (4 * x3)) + x4)) 129 40) + 1)) 129 40) ≤ 20) from c24)] at h
        refine go_aload_n (pc' := 143) dX11_cell_142 rfl rfl (Nat.le_of_ble_eq_true rfl) ?_
        refine go_iconst (pc' := 144) dX11_cell_143 rfl (r32_c rfl) ?_
        obtain ⟨v20, k21, h⟩ := bd h
        have k21 := l_M_remove (d + 279) n e (hset (hset v5.2 162 (v5.2 129 40) ((((576 * x1) + (48 * x2)) + (4 * x3)) + x4)) 129 40 (((hset v5.2 162 (v5.2 129 40) ((((576 * x1) + (48 * x2)) + (4 * x3)) + x4)) 129 40) + 1)) 0 _ k21
        refine go_call (kc := 205) (Mc := mt205) (v := none) (w' := (true, n, e, v20)) (pc' := 147) (st' := []) [pvR 11 0 129, pvI 0] [] (Or.inl rfl) dX11_cell_144 rfl rm_11_318 mtE205 rfl rfl rfl (Nat.le_of_ble_eq_true rfl) (Or.inr ⟨_, _, 129, rfl, Or.inl rfl⟩) k21 rfl ?_
        cases h
        exact k19J
    · rw [if_neg (show ¬ ((v5.2 129 40) ≤ y15) from c31)] at h
      refine go_aload_n (pc' := 74) dX11_cell_73 rfl rfl (Nat.le_of_ble_eq_true rfl) ?_
      refine go_getR (k' := 12) (L0 := 21) (P' := 162) (pc' := 77) dX11_cell_74 rfl rf_11_116 rfl rfl (by omega) ?_
      refine go_iload (pc' := 79) dX11_cell_77 rfl rfl ?_
      obtain ⟨g25, h⟩ := gd h
      refine go_iald (pc' := 80) dX11_cell_79 rfl g25 ?_
      refine go_iload (pc' := 82) dX11_cell_80 rfl rfl ?_
      refine go_icmp_ne (t := 106) (pc' := 85) dX11_cell_82 rfl rfl (fun c30 => ?_) (fun c30 => ?_)
      · rw [if_pos (show (v5.2 162 y15) ≠ ((((576 * x1) + (48 * x2)) + (4 * x3)) + x4) from c30)] at h
        obtain ⟨g26, h⟩ := gd h
        refine go_iinc (L' := [some (pvR 11 0 129), some (pvI x1), some (pvI x2), some (pvI x3), some (pvI x4), some (pvI ((((576 * x1) + (48 * x2)) + (4 * x3)) + x4)), some (pvI (y15 + 1))]) (pc' := 109) dX11_cell_106 rfl rfl g26 rfl ?_
        refine go_goto (t := 64) dX11_cell_109 rfl ?_
        exact ih (y15 + 1) _ h
      · rw [if_neg (show ¬ ((v5.2 162 y15) ≠ ((((576 * x1) + (48 * x2)) + (4 * x3)) + x4)) from c30)] at h
        refine go_aload_n (pc' := 86) dX11_cell_85 rfl rfl (Nat.le_of_ble_eq_true rfl) ?_
        refine go_dup (pc' := 87) dX11_cell_86 rfl (Nat.ne_of_beq_eq_false rfl) ?_
        refine go_getI (pc' := 90) dX11_cell_87 rfl rf_11_315 rfl ?_
        refine go_iconst (pc' := 91) dX11_cell_90 rfl (r32_c rfl) ?_
        obtain ⟨g27, h⟩ := gd h
        refine go_iadd (pc' := 92) dX11_cell_91 rfl g27 ?_
        refine go_putI (pc' := 95) dX11_cell_92 rfl rf_11_315 rfl ?_
        refine go_aload_n (pc' := 96) dX11_cell_95 rfl rfl (Nat.le_of_ble_eq_true rfl) ?_
        refine go_iload_n (pc' := 97) dX11_cell_96 rfl rfl ?_
        refine go_iload_n (pc' := 98) dX11_cell_97 rfl rfl ?_
        refine go_iload_n (pc' := 99) dX11_cell_98 rfl rfl ?_
        refine go_iload (pc' := 101) dX11_cell_99 rfl rfl ?_
        refine go_iconst (pc' := 102) dX11_cell_101 rfl (r32_c rfl) ?_
        obtain ⟨v28, k29, h⟩ := bd h
        have k29 := l_M_value zDeep (d + 0) n e (hset v5.2 129 41 ((v5.2 129 41) + 1)) x1 x2 x3 x4 0 _ k29
        refine go_call (kc := 209) (Mc := mt209) (v := some (pvL v28.1)) (w' := (true, n, e, v28.2)) (pc' := 105) (st' := [pvL v28.1]) [pvR 11 0 129, pvI x1, pvI x2, pvI x3, pvI x4, pvI 0] [] (Or.inl rfl) dX11_cell_102 rfl rm_11_275 mtE209 rfl rfl rfl (Nat.le_of_ble_eq_true rfl) (Or.inr ⟨_, _, 129, rfl, Or.inl rfl⟩) k29 rfl ?_
        cases h
        exact go_lret dX11_cell_105 rfl rfl

set_option maxRecDepth 10000 in
theorem l_M_cell (d : Nat) (n e : Nat) (σ : Hp) (x1 : Int) (x2 : Int) (x3 : Int) (x4 : Int) (r : Int × Hp) (h : f_M_cell σ x1 x2 x3 x4 = some r) : Ev (d + 281) 207 [pvR 11 0 129, pvI x1, pvI x2, pvI x3, pvI x4] (true, n, e, σ) (0, some (pvL r.1), true, n, e, r.2) := by
  unfold f_M_cell at h
  refine Ev.of mtE207 rfl rfl rfl rfl ?_
  show Go none (Ev (d + 280)) mt207 0 [some (pvR 11 0 129), some (pvI x1), some (pvI x2), some (pvI x3), some (pvI x4), none, none] [] (true, n, e, σ) (0, some (pvL r.1), true, n, e, r.2)
  refine go_aload_n (pc' := 1) dX11_cell_0 rfl rfl (Nat.le_of_ble_eq_true rfl) ?_
  refine go_aload_n (pc' := 2) dX11_cell_1 rfl rfl (Nat.le_of_ble_eq_true rfl) ?_
  refine go_iload_n (pc' := 3) dX11_cell_2 rfl rfl ?_
  refine go_iload_n (pc' := 4) dX11_cell_3 rfl rfl ?_
  refine go_iload_n (pc' := 5) dX11_cell_4 rfl rfl ?_
  refine go_iload (pc' := 7) dX11_cell_5 rfl rfl ?_
  obtain ⟨v1, k2, h⟩ := bd h
  have k2 := l_M_areThere (d + 276) n e σ x1 x2 x3 x4 _ k2
  refine go_call (kc := 196) (Mc := mt196) (v := some (pvI v1)) (w' := (true, n, e, σ)) (pc' := 10) (st' := [pvI v1, pvR 11 0 129]) [pvR 11 0 129, pvI x1, pvI x2, pvI x3, pvI x4] [pvR 11 0 129] (Or.inl rfl) dX11_cell_7 rfl rm_11_233 mtE196 rfl rfl rfl (Nat.le_of_ble_eq_true rfl) (Or.inr ⟨_, _, 129, rfl, Or.inl rfl⟩) k2 rfl ?_
  obtain ⟨j3, k4, h⟩ := bd h
  have k4J : Go none (Ev (d + 280)) mt207 18 [some (pvR 11 0 129), some (pvI x1), some (pvI x2), some (pvI x3), some (pvI x4), none, none] [pvI j3, pvR 11 0 129] (true, n, e, σ) (0, some (pvL r.1), true, n, e, r.2) := by
    obtain ⟨v5, k6, h⟩ := bd h
    have k6 := l_M_holds (d + 279) n e σ j3 _ k6
    refine go_call (kc := 174) (Mc := mt174) (v := some (pvI v5.1)) (w' := (true, n, e, v5.2)) (pc' := 21) (st' := [pvI v5.1]) [pvR 11 0 129, pvI j3] [] (Or.inl rfl) dX11_cell_18 rfl rm_11_185 mtE174 rfl rfl rfl (Nat.le_of_ble_eq_true rfl) (Or.inr ⟨_, _, 129, rfl, Or.inl rfl⟩) k6 rfl ?_
    refine go_if_eq (t := 28) (pc' := 24) dX11_cell_21 rfl rfl (fun c33 => ?_) (fun c33 => ?_)
    · rw [if_pos (show v5.1 = 0 from c33)] at h
      refine go_aload_n (pc' := 29) dX11_cell_28 rfl rfl (Nat.le_of_ble_eq_true rfl) ?_
      refine go_iload_n (pc' := 30) dX11_cell_29 rfl rfl ?_
      refine go_iload_n (pc' := 31) dX11_cell_30 rfl rfl ?_
      refine go_iload_n (pc' := 32) dX11_cell_31 rfl rfl ?_
      obtain ⟨v7, k8, h⟩ := bd h
      have k8 := l_M_areSeen (d + 276) n e v5.2 x1 x2 x3 _ k8
      refine go_call (kc := 208) (Mc := mt208) (v := some (pvI v7)) (w' := (true, n, e, v5.2)) (pc' := 35) (st' := [pvI v7]) [pvR 11 0 129, pvI x1, pvI x2, pvI x3] [] (Or.inl rfl) dX11_cell_32 rfl rm_11_311 mtE208 rfl rfl rfl (Nat.le_of_ble_eq_true rfl) (Or.inr ⟨_, _, 129, rfl, Or.inl rfl⟩) k8 rfl ?_
      refine go_if_ne (t := 42) (pc' := 38) dX11_cell_35 rfl rfl (fun c32 => ?_) (fun c32 => ?_)
      · rw [if_pos (show v7 ≠ 0 from c32)] at h
        refine go_sipush (pc' := 45) dX11_cell_42 rfl (r32_c rfl) (by decide) ?_
        refine go_iload_n (pc' := 46) dX11_cell_45 rfl rfl ?_
        obtain ⟨g9, h⟩ := gd h
        refine go_imul (pc' := 47) dX11_cell_46 rfl g9 ?_
        refine go_bipush (pc' := 49) dX11_cell_47 rfl (r32_c rfl) (by decide) ?_
        refine go_iload_n (pc' := 50) dX11_cell_49 rfl rfl ?_
        obtain ⟨g10, h⟩ := gd h
        refine go_imul (pc' := 51) dX11_cell_50 rfl g10 ?_
        obtain ⟨g11, h⟩ := gd h
        refine go_iadd (pc' := 52) dX11_cell_51 rfl g11 ?_
        refine go_iconst (pc' := 53) dX11_cell_52 rfl (r32_c rfl) ?_
        refine go_iload_n (pc' := 54) dX11_cell_53 rfl rfl ?_
        obtain ⟨g12, h⟩ := gd h
        refine go_imul (pc' := 55) dX11_cell_54 rfl g12 ?_
        obtain ⟨g13, h⟩ := gd h
        refine go_iadd (pc' := 56) dX11_cell_55 rfl g13 ?_
        refine go_iload (pc' := 58) dX11_cell_56 rfl rfl ?_
        obtain ⟨g14, h⟩ := gd h
        refine go_iadd (pc' := 59) dX11_cell_58 rfl g14 ?_
        refine go_istore (L' := [some (pvR 11 0 129), some (pvI x1), some (pvI x2), some (pvI x3), some (pvI x4), some (pvI ((((576 * x1) + (48 * x2)) + (4 * x3)) + x4)), none]) (pc' := 61) dX11_cell_59 rfl (Nat.le_of_ble_eq_true rfl) rfl ?_
        refine go_iconst (pc' := 62) dX11_cell_61 rfl (r32_c rfl) ?_
        refine go_istore (L' := [some (pvR 11 0 129), some (pvI x1), some (pvI x2), some (pvI x3), some (pvI x4), some (pvI ((((576 * x1) + (48 * x2)) + (4 * x3)) + x4)), some (pvI 0)]) (pc' := 64) dX11_cell_62 rfl (Nat.le_of_ble_eq_true rfl) rfl ?_
        exact l_M_cell_64 d n e x1 x2 x3 x4 v5 zFuel 0 _ h
      · rw [if_neg (show ¬ (v7 ≠ 0) from c32)] at h
        refine go_ldc2 (pc' := 41) dX11_cell_38 rfl (r64_c rfl) rc_11_262 ?_
        cases h
        exact go_lret dX11_cell_41 rfl rfl
    · rw [if_neg (show ¬ (v5.1 = 0) from c33)] at h
      refine go_ldc2 (pc' := 27) dX11_cell_24 rfl (r64_c rfl) rc_11_183 ?_
      cases h
      exact go_lret dX11_cell_27 rfl rfl
  clear h
  have h := k4
  refine go_if_eq (t := 17) (pc' := 13) dX11_cell_10 rfl rfl (fun c34 => ?_) (fun c34 => ?_)
  · rw [if_pos (show v1 = 0 from c34)] at h
    refine go_iconst (pc' := 18) dX11_cell_17 rfl (r32_c rfl) ?_
    cases h
    exact k4J
  · rw [if_neg (show ¬ (v1 = 0) from c34)] at h
    refine go_iconst (pc' := 14) dX11_cell_13 rfl (r32_c rfl) ?_
    refine go_goto (t := 18) dX11_cell_14 rfl ?_
    cases h
    exact k4J

set_option maxRecDepth 10000 in
theorem l_M_ask (d : Nat) (n e : Nat) (σ : Hp) (x1 : Int) (x2 : Int) (x3 : Int) (x4 : Int) (r : Int × Hp) (h : f_M_ask σ x1 x2 x3 x4 = some r) : Ev (d + 281) 220 [pvR 11 0 129, pvI x1, pvI x2, pvI x3, pvI x4] (true, n, e, σ) (0, some (pvL r.1), true, n, e, r.2) := by
  unfold f_M_ask at h
  refine Ev.of mtE220 rfl rfl rfl rfl ?_
  show Go none (Ev (d + 280)) mt220 0 [some (pvR 11 0 129), some (pvI x1), some (pvI x2), some (pvI x3), some (pvI x4)] [] (true, n, e, σ) (0, some (pvL r.1), true, n, e, r.2)
  refine go_aload_n (pc' := 1) dX11_ask_0 rfl rfl (Nat.le_of_ble_eq_true rfl) ?_
  refine go_iload_n (pc' := 2) dX11_ask_1 rfl rfl ?_
  refine go_iload_n (pc' := 3) dX11_ask_2 rfl rfl ?_
  refine go_iload_n (pc' := 4) dX11_ask_3 rfl rfl ?_
  obtain ⟨v1, k2, h⟩ := bd h
  have k2 := l_M_areSeen (d + 276) n e σ x1 x2 x3 _ k2
  refine go_call (kc := 208) (Mc := mt208) (v := some (pvI v1)) (w' := (true, n, e, σ)) (pc' := 7) (st' := [pvI v1]) [pvR 11 0 129, pvI x1, pvI x2, pvI x3] [] (Or.inl rfl) dX11_ask_4 rfl rm_11_311 mtE208 rfl rfl rfl (Nat.le_of_ble_eq_true rfl) (Or.inr ⟨_, _, 129, rfl, Or.inl rfl⟩) k2 rfl ?_
  obtain ⟨j3, k4, h⟩ := bd h
  have k4J : Go none (Ev (d + 280)) mt220 26 [some (pvR 11 0 129), some (pvI x1), some (pvI x2), some (pvI x3), some (pvI x4)] [pvL j3.1] (true, n, e, j3.2) (0, some (pvL r.1), true, n, e, r.2) := by
    cases h
    exact go_lret dX11_ask_26 rfl rfl
  clear h
  have h := k4
  refine go_if_eq (t := 23) (pc' := 10) dX11_ask_7 rfl rfl (fun c7 => ?_) (fun c7 => ?_)
  · rw [if_pos (show v1 = 0 from c7)] at h
    refine go_ldc2 (pc' := 26) dX11_ask_23 rfl (r64_c rfl) rc_11_262 ?_
    cases h
    exact k4J
  · rw [if_neg (show ¬ (v1 = 0) from c7)] at h
    refine go_aload_n (pc' := 11) dX11_ask_10 rfl rfl (Nat.le_of_ble_eq_true rfl) ?_
    refine go_iload_n (pc' := 12) dX11_ask_11 rfl rfl ?_
    refine go_iload_n (pc' := 13) dX11_ask_12 rfl rfl ?_
    refine go_iload_n (pc' := 14) dX11_ask_13 rfl rfl ?_
    refine go_iload (pc' := 16) dX11_ask_14 rfl rfl ?_
    refine go_iconst (pc' := 17) dX11_ask_16 rfl (r32_c rfl) ?_
    obtain ⟨v5, k6, h⟩ := bd h
    have k6 := l_M_value zDeep (d + 0) n e σ x1 x2 x3 x4 0 _ k6
    refine go_call (kc := 209) (Mc := mt209) (v := some (pvL v5.1)) (w' := (true, n, e, v5.2)) (pc' := 20) (st' := [pvL v5.1]) [pvR 11 0 129, pvI x1, pvI x2, pvI x3, pvI x4, pvI 0] [] (Or.inl rfl) dX11_ask_17 rfl rm_11_275 mtE209 rfl rfl rfl (Nat.le_of_ble_eq_true rfl) (Or.inr ⟨_, _, 129, rfl, Or.inl rfl⟩) k6 rfl ?_
    refine go_goto (t := 26) dX11_ask_20 rfl ?_
    cases h
    exact k4J

