/-! ===== links: each function is what its bytecode does ===== -/
set_option maxRecDepth 10000 in
theorem l_M_weights_9 (d : Nat) (n : Nat) (e : Nat) (σ : Hp) (x1 : Int) (x2 : Int) {out : Out} : ∀ (F : Nat) (y1 : Int) (y2 : Int) (y3 : Int) (j14 : Int × Int × Int), f_M_weights_9 σ x1 F y1 y2 y3 = some j14 → Go none (Ev (d + 1)) mt233 64 [some (pvR 11 0 129), some (pvI x1), some (pvL x2), none, some (pvL j14.1), none, some (pvI j14.2.1), some (pvI j14.2.2), none, none, none] [] (true, n, e, σ) out → Go none (Ev (d + 1)) mt233 9 [some (pvR 11 0 129), some (pvI x1), some (pvL x2), none, some (pvL y1), none, some (pvI y2), some (pvI y3), none, none, none] [] (true, n, e, σ) out := by
  intro F
  induction F with
  | zero =>
    intro _ _ _ _ h
    intro _
    rw [f_M_weights_9] at h
    cases h
  | succ F ih =>
    intro y1 y2 y3 j14 h hx
    rw [f_M_weights_9] at h
    refine go_iload (pc' := 11) dX11_weights_9 rfl rfl ?_
    refine go_iload_n (pc' := 12) dX11_weights_11 rfl rfl ?_
    refine go_icmp_ge (t := 64) (pc' := 15) dX11_weights_12 rfl rfl (fun c13 => ?_) (fun c13 => ?_)
    · rw [if_pos (show x1 ≤ y3 from c13)] at h
      cases h
      exact hx
    · rw [if_neg (show ¬ (x1 ≤ y3) from c13)] at h
      refine go_lload (pc' := 17) dX11_weights_15 rfl rfl ?_
      refine go_aload_n (pc' := 18) dX11_weights_17 rfl rfl (Nat.le_of_ble_eq_true rfl) ?_
      refine go_getR (k' := 12) (L0 := 51) (P' := 154) (pc' := 21) dX11_weights_18 rfl rf_11_84 rfl rfl (by omega) ?_
      refine go_aload_n (pc' := 22) dX11_weights_21 rfl rfl (Nat.le_of_ble_eq_true rfl) ?_
      refine go_getR (k' := 12) (L0 := 51) (P' := 167) (pc' := 25) dX11_weights_22 rfl rf_11_131 rfl rfl (by omega) ?_
      refine go_iload (pc' := 27) dX11_weights_25 rfl rfl ?_
      obtain ⟨g4, h⟩ := gd h
      refine go_iald (pc' := 28) dX11_weights_27 rfl g4 ?_
      obtain ⟨g5, h⟩ := gd h
      refine go_iald (pc' := 29) dX11_weights_28 rfl g5 ?_
      refine go_i2l (pc' := 30) dX11_weights_29 rfl ?_
      obtain ⟨g6, h⟩ := gd h
      refine go_ladd (pc' := 31) dX11_weights_30 rfl g6 ?_
      refine go_lstore (L' := [some (pvR 11 0 129), some (pvI x1), some (pvL x2), none, some (pvL (y1 + (σ 154 (σ 167 y3)))), none, some (pvI y2), some (pvI y3), none, none, none]) (pc' := 33) dX11_weights_31 rfl (Nat.le_of_ble_eq_true rfl) rfl ?_
      refine go_iload (pc' := 35) dX11_weights_33 rfl rfl ?_
      refine go_aload_n (pc' := 36) dX11_weights_35 rfl rfl (Nat.le_of_ble_eq_true rfl) ?_
      refine go_getR (k' := 12) (L0 := 51) (P' := 154) (pc' := 39) dX11_weights_36 rfl rf_11_84 rfl rfl (by omega) ?_
      refine go_aload_n (pc' := 40) dX11_weights_39 rfl rfl (Nat.le_of_ble_eq_true rfl) ?_
      refine go_getR (k' := 12) (L0 := 51) (P' := 167) (pc' := 43) dX11_weights_40 rfl rf_11_131 rfl rfl (by omega) ?_
      refine go_iload (pc' := 45) dX11_weights_43 rfl rfl ?_
      obtain ⟨g7, h⟩ := gd h
      refine go_iald (pc' := 46) dX11_weights_45 rfl g7 ?_
      obtain ⟨g8, h⟩ := gd h
      refine go_iald (pc' := 47) dX11_weights_46 rfl g8 ?_
      obtain ⟨j9, k10, h⟩ := bd h
      have k10J : Go none (Ev (d + 1)) mt233 55 [some (pvR 11 0 129), some (pvI x1), some (pvL x2), none, some (pvL (y1 + (σ 154 (σ 167 y3)))), none, some (pvI y2), some (pvI y3), none, none, none] [pvI j9, pvI y2] (true, n, e, σ) out := by
        refine go_ior (pc' := 56) dX11_weights_55 rfl ?_
        refine go_istore (L' := [some (pvR 11 0 129), some (pvI x1), some (pvL x2), none, some (pvL (y1 + (σ 154 (σ 167 y3)))), none, some (pvI (ior y2 j9)), some (pvI y3), none, none, none]) (pc' := 58) dX11_weights_56 rfl (Nat.le_of_ble_eq_true rfl) rfl ?_
        obtain ⟨g11, h⟩ := gd h
        refine go_iinc (L' := [some (pvR 11 0 129), some (pvI x1), some (pvL x2), none, some (pvL (y1 + (σ 154 (σ 167 y3)))), none, some (pvI (ior y2 j9)), some (pvI (y3 + 1)), none, none, none]) (pc' := 61) dX11_weights_58 rfl rfl g11 rfl ?_
        refine go_goto (t := 9) dX11_weights_61 rfl ?_
        exact ih (y1 + (σ 154 (σ 167 y3))) (ior y2 j9) (y3 + 1) _ h hx
      clear h
      have h := k10
      refine go_if_ge (t := 54) (pc' := 50) dX11_weights_47 rfl rfl (fun c12 => ?_) (fun c12 => ?_)
      · rw [if_pos (show 0 ≤ (σ 154 (σ 167 y3)) from c12)] at h
        refine go_iconst (pc' := 55) dX11_weights_54 rfl (r32_c rfl) ?_
        cases h
        exact k10J
      · rw [if_neg (show ¬ (0 ≤ (σ 154 (σ 167 y3))) from c12)] at h
        refine go_iconst (pc' := 51) dX11_weights_50 rfl (r32_c rfl) ?_
        refine go_goto (t := 55) dX11_weights_51 rfl ?_
        cases h
        exact k10J

set_option maxRecDepth 10000 in
theorem l_M_weights_89 (d : Nat) (n : Nat) (e : Nat) (x1 : Int) (x2 : Int) (j15 : Int × Int × Int) {out : Out} : ∀ (F : Nat) (y19 : Int) (y20 : Int) (σ21 : Hp) (j36 : Int × Int × Hp), f_M_weights_89 x1 x2 j15 F y19 y20 σ21 = some j36 → Go none (Ev (d + 1)) mt233 163 [some (pvR 11 0 129), some (pvI x1), some (pvL x2), none, some (pvL j15.1), none, some (pvI j15.2.1), some (pvL j36.1), none, some (pvI j36.2.1), none] [] (true, n, e, j36.2.2) out → Go none (Ev (d + 1)) mt233 89 [some (pvR 11 0 129), some (pvI x1), some (pvL x2), none, some (pvL j15.1), none, some (pvI j15.2.1), some (pvL y19), none, some (pvI y20), none] [] (true, n, e, σ21) out := by
  intro F
  induction F with
  | zero =>
    intro _ _ _ _ h
    intro _
    rw [f_M_weights_89] at h
    cases h
  | succ F ih =>
    intro y19 y20 σ21 j36 h hx
    rw [f_M_weights_89] at h
    refine go_iload (pc' := 91) dX11_weights_89 rfl rfl ?_
    refine go_iload_n (pc' := 92) dX11_weights_91 rfl rfl ?_
    refine go_icmp_ge (t := 163) (pc' := 95) dX11_weights_92 rfl rfl (fun c35 => ?_) (fun c35 => ?_)
    · rw [if_pos (show x1 ≤ y20 from c35)] at h
      cases h
      exact hx
    · rw [if_neg (show ¬ (x1 ≤ y20) from c35)] at h
      refine go_aload_n (pc' := 96) dX11_weights_95 rfl rfl (Nat.le_of_ble_eq_true rfl) ?_
      refine go_getR (k' := 13) (L0 := 51) (P' := 168) (pc' := 99) dX11_weights_96 rfl rf_11_134 rfl rfl (by omega) ?_
      refine go_iload (pc' := 101) dX11_weights_99 rfl rfl ?_
      refine go_lload_n (pc' := 102) dX11_weights_101 rfl rfl ?_
      refine go_aload_n (pc' := 103) dX11_weights_102 rfl rfl (Nat.le_of_ble_eq_true rfl) ?_
      refine go_getR (k' := 12) (L0 := 51) (P' := 154) (pc' := 106) dX11_weights_103 rfl rf_11_84 rfl rfl (by omega) ?_
      refine go_aload_n (pc' := 107) dX11_weights_106 rfl rfl (Nat.le_of_ble_eq_true rfl) ?_
      refine go_getR (k' := 12) (L0 := 51) (P' := 167) (pc' := 110) dX11_weights_107 rfl rf_11_131 rfl rfl (by omega) ?_
      refine go_iload (pc' := 112) dX11_weights_110 rfl rfl ?_
      obtain ⟨g22, h⟩ := gd h
      refine go_iald (pc' := 113) dX11_weights_112 rfl g22 ?_
      obtain ⟨g23, h⟩ := gd h
      refine go_iald (pc' := 114) dX11_weights_113 rfl g23 ?_
      refine go_i2l (pc' := 115) dX11_weights_114 rfl ?_
      obtain ⟨g24, h⟩ := gd h
      refine go_lmul (pc' := 116) dX11_weights_115 rfl g24 ?_
      refine go_lload (pc' := 118) dX11_weights_116 rfl rfl ?_
      obtain ⟨g25, h⟩ := gd h
      refine go_ldiv (pc' := 119) dX11_weights_118 rfl g25 ?_
      obtain ⟨g26, h⟩ := gd h
      refine go_last (pc' := 120) dX11_weights_119 rfl g26 ?_
      refine go_aload_n (pc' := 121) dX11_weights_120 rfl rfl (Nat.le_of_ble_eq_true rfl) ?_
      refine go_getR (k' := 13) (L0 := 51) (P' := 169) (pc' := 124) dX11_weights_121 rfl rf_11_137 rfl rfl (by omega) ?_
      refine go_iload (pc' := 126) dX11_weights_124 rfl rfl ?_
      refine go_lload_n (pc' := 127) dX11_weights_126 rfl rfl ?_
      refine go_aload_n (pc' := 128) dX11_weights_127 rfl rfl (Nat.le_of_ble_eq_true rfl) ?_
      refine go_getR (k' := 12) (L0 := 51) (P' := 154) (pc' := 131) dX11_weights_128 rfl rf_11_84 rfl rfl (by omega) ?_
      refine go_aload_n (pc' := 132) dX11_weights_131 rfl rfl (Nat.le_of_ble_eq_true rfl) ?_
      refine go_getR (k' := 12) (L0 := 51) (P' := 167) (pc' := 135) dX11_weights_132 rfl rf_11_131 rfl rfl (by omega) ?_
      refine go_iload (pc' := 137) dX11_weights_135 rfl rfl ?_
      obtain ⟨g27, h⟩ := gd h
      refine go_iald (pc' := 138) dX11_weights_137 rfl g27 ?_
      obtain ⟨g28, h⟩ := gd h
      refine go_iald (pc' := 139) dX11_weights_138 rfl g28 ?_
      refine go_i2l (pc' := 140) dX11_weights_139 rfl ?_
      obtain ⟨g29, h⟩ := gd h
      refine go_lmul (pc' := 141) dX11_weights_140 rfl g29 ?_
      refine go_lload (pc' := 143) dX11_weights_141 rfl rfl ?_
      obtain ⟨g30, h⟩ := gd h
      refine go_lrem (pc' := 144) dX11_weights_143 rfl g30 ?_
      obtain ⟨g31, h⟩ := gd h
      refine go_last (pc' := 145) dX11_weights_144 rfl g31 ?_
      refine go_lload (pc' := 147) dX11_weights_145 rfl rfl ?_
      refine go_aload_n (pc' := 148) dX11_weights_147 rfl rfl (Nat.le_of_ble_eq_true rfl) ?_
      refine go_getR (k' := 13) (L0 := 51) (P' := 168) (pc' := 151) dX11_weights_148 rfl rf_11_134 rfl rfl (by omega) ?_
      refine go_iload (pc' := 153) dX11_weights_151 rfl rfl ?_
      obtain ⟨g32, h⟩ := gd h
      refine go_lald (pc' := 154) dX11_weights_153 rfl g32 ?_
      obtain ⟨g33, h⟩ := gd h
      refine go_lsub (pc' := 155) dX11_weights_154 rfl g33 ?_
      refine go_lstore (L' := [some (pvR 11 0 129), some (pvI x1), some (pvL x2), none, some (pvL j15.1), none, some (pvI j15.2.1), some (pvL (y19 - ((hset (hset σ21 168 y20 (Int.tdiv (x2 * (σ21 154 (σ21 167 y20))) j15.1)) 169 y20 (Int.tmod (x2 * ((hset σ21 168 y20 (Int.tdiv (x2 * (σ21 154 (σ21 167 y20))) j15.1)) 154 ((hset σ21 168 y20 (Int.tdiv (x2 * (σ21 154 (σ21 167 y20))) j15.1)) 167 y20))) j15.1)) 168 y20))), none, some (pvI y20), none]) (pc' := 157) dX11_weights_155 rfl (Nat.le_of_ble_eq_true rfl) rfl ?_
      obtain ⟨g34, h⟩ := gd h
      refine go_iinc (L' := [some (pvR 11 0 129), some (pvI x1), some (pvL x2), none, some (pvL j15.1), none, some (pvI j15.2.1), some (pvL (y19 - ((hset (hset σ21 168 y20 (Int.tdiv (x2 * (σ21 154 (σ21 167 y20))) j15.1)) 169 y20 (Int.tmod (x2 * ((hset σ21 168 y20 (Int.tdiv (x2 * (σ21 154 (σ21 167 y20))) j15.1)) 154 ((hset σ21 168 y20 (Int.tdiv (x2 * (σ21 154 (σ21 167 y20))) j15.1)) 167 y20))) j15.1)) 168 y20))), none, some (pvI (y20 + 1)), none]) (pc' := 160) dX11_weights_157 rfl rfl g34 rfl ?_
      refine go_goto (t := 89) dX11_weights_160 rfl ?_
      exact ih (y19 - ((hset (hset σ21 168 y20 (Int.tdiv (x2 * (σ21 154 (σ21 167 y20))) j15.1)) 169 y20 (Int.tmod (x2 * ((hset σ21 168 y20 (Int.tdiv (x2 * (σ21 154 (σ21 167 y20))) j15.1)) 154 ((hset σ21 168 y20 (Int.tdiv (x2 * (σ21 154 (σ21 167 y20))) j15.1)) 167 y20))) j15.1)) 168 y20)) (y20 + 1) (hset (hset σ21 168 y20 (Int.tdiv (x2 * (σ21 154 (σ21 167 y20))) j15.1)) 169 y20 (Int.tmod (x2 * ((hset σ21 168 y20 (Int.tdiv (x2 * (σ21 154 (σ21 167 y20))) j15.1)) 154 ((hset σ21 168 y20 (Int.tdiv (x2 * (σ21 154 (σ21 167 y20))) j15.1)) 167 y20))) j15.1)) _ h hx

set_option maxRecDepth 10000 in
theorem l_M_weights_176 (d : Nat) (n : Nat) (e : Nat) (x1 : Int) (x2 : Int) (j15 : Int × Int × Int) (y39 : Int) (σ41 : Hp) {out : Out} : ∀ (F : Nat) (y42 : Int) (y43 : Int) (j51 : Int × Int), f_M_weights_176 x1 σ41 F y42 y43 = some j51 → Go none (Ev (d + 1)) mt233 215 [some (pvR 11 0 129), some (pvI x1), some (pvL x2), none, some (pvL j15.1), none, some (pvI j15.2.1), some (pvL y39), none, some (pvI j51.1), some (pvI j51.2)] [] (true, n, e, σ41) out → Go none (Ev (d + 1)) mt233 176 [some (pvR 11 0 129), some (pvI x1), some (pvL x2), none, some (pvL j15.1), none, some (pvI j15.2.1), some (pvL y39), none, some (pvI y42), some (pvI y43)] [] (true, n, e, σ41) out := by
  intro F
  induction F with
  | zero =>
    intro _ _ _ h
    intro _
    rw [f_M_weights_176] at h
    cases h
  | succ F ih =>
    intro y42 y43 j51 h hx
    rw [f_M_weights_176] at h
    refine go_iload (pc' := 178) dX11_weights_176 rfl rfl ?_
    refine go_iload_n (pc' := 179) dX11_weights_178 rfl rfl ?_
    refine go_icmp_ge (t := 215) (pc' := 182) dX11_weights_179 rfl rfl (fun c50 => ?_) (fun c50 => ?_)
    · rw [if_pos (show x1 ≤ y43 from c50)] at h
      cases h
      exact hx
    · rw [if_neg (show ¬ (x1 ≤ y43) from c50)] at h
      refine go_aload_n (pc' := 183) dX11_weights_182 rfl rfl (Nat.le_of_ble_eq_true rfl) ?_
      refine go_getR (k' := 13) (L0 := 51) (P' := 169) (pc' := 186) dX11_weights_183 rfl rf_11_137 rfl rfl (by omega) ?_
      refine go_iload (pc' := 188) dX11_weights_186 rfl rfl ?_
      obtain ⟨g44, h⟩ := gd h
      refine go_lald (pc' := 189) dX11_weights_188 rfl g44 ?_
      refine go_aload_n (pc' := 190) dX11_weights_189 rfl rfl (Nat.le_of_ble_eq_true rfl) ?_
      refine go_getR (k' := 13) (L0 := 51) (P' := 169) (pc' := 193) dX11_weights_190 rfl rf_11_137 rfl rfl (by omega) ?_
      refine go_iload (pc' := 195) dX11_weights_193 rfl rfl ?_
      obtain ⟨g45, h⟩ := gd h
      refine go_lald (pc' := 196) dX11_weights_195 rfl g45 ?_
      refine go_lcmp (pc' := 197) dX11_weights_196 rfl ?_
      obtain ⟨j46, k47, h⟩ := bd h
      have k47J : Go none (Ev (d + 1)) mt233 207 [some (pvR 11 0 129), some (pvI x1), some (pvL x2), none, some (pvL j15.1), none, some (pvI j15.2.1), some (pvL y39), none, some (pvI y42), some (pvI y43)] [pvI j46] (true, n, e, σ41) out := by
        refine go_istore (L' := [some (pvR 11 0 129), some (pvI x1), some (pvL x2), none, some (pvL j15.1), none, some (pvI j15.2.1), some (pvL y39), none, some (pvI j46), some (pvI y43)]) (pc' := 209) dX11_weights_207 rfl (Nat.le_of_ble_eq_true rfl) rfl ?_
        obtain ⟨g48, h⟩ := gd h
        refine go_iinc (L' := [some (pvR 11 0 129), some (pvI x1), some (pvL x2), none, some (pvL j15.1), none, some (pvI j15.2.1), some (pvL y39), none, some (pvI j46), some (pvI (y43 + 1))]) (pc' := 212) dX11_weights_209 rfl rfl g48 rfl ?_
        refine go_goto (t := 176) dX11_weights_212 rfl ?_
        exact ih j46 (y43 + 1) _ h hx
      clear h
      have h := k47
      refine go_if_le (t := 205) (pc' := 200) dX11_weights_197 rfl rfl (fun c49 => ?_) (fun c49 => ?_)
      · rw [if_pos (show (lcm (σ41 169 y43) (σ41 169 y42)) ≤ 0 from c49)] at h
        refine go_iload (pc' := 207) dX11_weights_205 rfl rfl ?_
        cases h
        exact k47J
      · rw [if_neg (show ¬ ((lcm (σ41 169 y43) (σ41 169 y42)) ≤ 0) from c49)] at h
        refine go_iload (pc' := 202) dX11_weights_200 rfl rfl ?_
        refine go_goto (t := 207) dX11_weights_202 rfl ?_
        cases h
        exact k47J

set_option maxRecDepth 10000 in
theorem l_M_weights_163 (d : Nat) (n : Nat) (e : Nat) (x1 : Int) (x2 : Int) (j15 : Int × Int × Int) {out : Out} : ∀ (F : Nat) (y39 : Int) (y40 : Int) (σ41 : Hp) (j60 : Int × Int × Hp), f_M_weights_163 x1 F y39 y40 σ41 = some j60 → Go none (Ev (d + 1)) mt233 245 [some (pvR 11 0 129), some (pvI x1), some (pvL x2), none, some (pvL j15.1), none, some (pvI j15.2.1), some (pvL j60.1), none, some (pvI j60.2.1), none] [] (true, n, e, j60.2.2) out → Go none (Ev (d + 1)) mt233 163 [some (pvR 11 0 129), some (pvI x1), some (pvL x2), none, some (pvL j15.1), none, some (pvI j15.2.1), some (pvL y39), none, some (pvI y40), none] [] (true, n, e, σ41) out := by
  intro F
  induction F with
  | zero =>
    intro _ _ _ _ h
    intro _
    rw [f_M_weights_163] at h
    cases h
  | succ F ih =>
    intro y39 y40 σ41 j60 h hx
    rw [f_M_weights_163] at h
    refine go_lload (pc' := 165) dX11_weights_163 rfl rfl ?_
    refine go_lconst (z := 0) (pc' := 166) dX11_weights_165 rfl rfl ?_
    refine go_lcmp (pc' := 167) dX11_weights_166 rfl ?_
    refine go_if_le (t := 245) (pc' := 170) dX11_weights_167 rfl rfl (fun c59 => ?_) (fun c59 => ?_)
    · rw [if_pos (show (lcm y39 0) ≤ 0 from c59)] at h
      cases h
      exact hx
    · rw [if_neg (show ¬ ((lcm y39 0) ≤ 0) from c59)] at h
      refine go_iconst (pc' := 171) dX11_weights_170 rfl (r32_c rfl) ?_
      refine go_istore (L' := [some (pvR 11 0 129), some (pvI x1), some (pvL x2), none, some (pvL j15.1), none, some (pvI j15.2.1), some (pvL y39), none, some (pvI 0), none]) (pc' := 173) dX11_weights_171 rfl (Nat.le_of_ble_eq_true rfl) rfl ?_
      refine go_iconst (pc' := 174) dX11_weights_173 rfl (r32_c rfl) ?_
      refine go_istore (L' := [some (pvR 11 0 129), some (pvI x1), some (pvL x2), none, some (pvL j15.1), none, some (pvI j15.2.1), some (pvL y39), none, some (pvI 0), some (pvI 1)]) (pc' := 176) dX11_weights_174 rfl (Nat.le_of_ble_eq_true rfl) rfl ?_
      obtain ⟨j52, k53, h⟩ := bd h
      refine l_M_weights_176 d n e x1 x2 j15 y39 σ41 zFuel 0 1 _ k53 ?_
      refine go_aload_n (pc' := 216) dX11_weights_215 rfl rfl (Nat.le_of_ble_eq_true rfl) ?_
      refine go_getR (k' := 13) (L0 := 51) (P' := 168) (pc' := 219) dX11_weights_216 rfl rf_11_134 rfl rfl (by omega) ?_
      refine go_iload (pc' := 221) dX11_weights_219 rfl rfl ?_
      refine go_dup2 (pc' := 222) dX11_weights_221 rfl (Nat.ne_of_beq_eq_false rfl) (Nat.ne_of_beq_eq_false rfl) ?_
      obtain ⟨g54, h⟩ := gd h
      refine go_lald (pc' := 223) dX11_weights_222 rfl g54 ?_
      refine go_lconst (z := 1) (pc' := 224) dX11_weights_223 rfl rfl ?_
      obtain ⟨g55, h⟩ := gd h
      refine go_ladd (pc' := 225) dX11_weights_224 rfl g55 ?_
      obtain ⟨g56, h⟩ := gd h
      refine go_last (pc' := 226) dX11_weights_225 rfl g56 ?_
      refine go_aload_n (pc' := 227) dX11_weights_226 rfl rfl (Nat.le_of_ble_eq_true rfl) ?_
      refine go_getR (k' := 13) (L0 := 51) (P' := 169) (pc' := 230) dX11_weights_227 rfl rf_11_137 rfl rfl (by omega) ?_
      refine go_iload (pc' := 232) dX11_weights_230 rfl rfl ?_
      refine go_ldc2 (pc' := 235) dX11_weights_232 rfl (r64_c rfl) rc_11_183 ?_
      obtain ⟨g57, h⟩ := gd h
      refine go_last (pc' := 236) dX11_weights_235 rfl g57 ?_
      refine go_lload (pc' := 238) dX11_weights_236 rfl rfl ?_
      refine go_lconst (z := 1) (pc' := 239) dX11_weights_238 rfl rfl ?_
      obtain ⟨g58, h⟩ := gd h
      refine go_lsub (pc' := 240) dX11_weights_239 rfl g58 ?_
      refine go_lstore (L' := [some (pvR 11 0 129), some (pvI x1), some (pvL x2), none, some (pvL j15.1), none, some (pvI j15.2.1), some (pvL (y39 - 1)), none, some (pvI j52.1), some (pvI j52.2)]) (pc' := 242) dX11_weights_240 rfl (Nat.le_of_ble_eq_true rfl) rfl ?_
      refine go_goto (t := 163) dX11_weights_242 rfl ?_
      exact go_sub (ih (y39 - 1) j52.1 (hset (hset σ41 168 j52.1 ((σ41 168 j52.1) + 1)) 169 j52.1 (-1)) _ h hx) ⟨Or.inr rfl, Or.inr rfl, Or.inr rfl, Or.inr rfl, Or.inr rfl, Or.inr rfl, Or.inr rfl, Or.inr rfl, Or.inr rfl, Or.inr rfl, Or.inl rfl, trivial⟩

set_option maxRecDepth 10000 in
theorem l_M_weights (d : Nat) (n e : Nat) (σ : Hp) (x1 : Int) (x2 : Int) (r : Hp) (h : f_M_weights σ x1 x2 = some r) : Ev (d + 2) 233 [pvR 11 0 129, pvI x1, pvL x2] (true, n, e, σ) (0, none, true, n, e, r) := by
  unfold f_M_weights at h
  refine Ev.of mtE233 rfl rfl rfl rfl ?_
  show Go none (Ev (d + 1)) mt233 0 [some (pvR 11 0 129), some (pvI x1), some (pvL x2), none, none, none, none, none, none, none, none] [] (true, n, e, σ) (0, none, true, n, e, r)
  refine go_lconst (z := 0) (pc' := 1) dX11_weights_0 rfl rfl ?_
  refine go_lstore (L' := [some (pvR 11 0 129), some (pvI x1), some (pvL x2), none, some (pvL 0), none, none, none, none, none, none]) (pc' := 3) dX11_weights_1 rfl (Nat.le_of_ble_eq_true rfl) rfl ?_
  refine go_iconst (pc' := 4) dX11_weights_3 rfl (r32_c rfl) ?_
  refine go_istore (L' := [some (pvR 11 0 129), some (pvI x1), some (pvL x2), none, some (pvL 0), none, some (pvI 0), none, none, none, none]) (pc' := 6) dX11_weights_4 rfl (Nat.le_of_ble_eq_true rfl) rfl ?_
  refine go_iconst (pc' := 7) dX11_weights_6 rfl (r32_c rfl) ?_
  refine go_istore (L' := [some (pvR 11 0 129), some (pvI x1), some (pvL x2), none, some (pvL 0), none, some (pvI 0), some (pvI 0), none, none, none]) (pc' := 9) dX11_weights_7 rfl (Nat.le_of_ble_eq_true rfl) rfl ?_
  obtain ⟨j15, k16, h⟩ := bd h
  refine l_M_weights_9 d n e σ x1 x2 zFuel 0 0 0 _ k16 ?_
  refine go_iload (pc' := 66) dX11_weights_64 rfl rfl ?_
  refine go_if_ne (t := 76) (pc' := 69) dX11_weights_66 rfl rfl (fun c66 => ?_) (fun c66 => ?_)
  · rw [if_pos (show j15.2.1 ≠ 0 from c66)] at h
    refine go_aload_n (pc' := 77) dX11_weights_76 rfl rfl (Nat.le_of_ble_eq_true rfl) ?_
    refine go_iload_n (pc' := 78) dX11_weights_77 rfl rfl ?_
    refine go_lload_n (pc' := 79) dX11_weights_78 rfl rfl ?_
    obtain ⟨v17, k18, h⟩ := bd h
    have k18 := l_M_equal (d + 0) n e σ x1 x2 _ k18
    refine go_call (kc := 232) (Mc := mt232) (v := none) (w' := (true, n, e, v17)) (pc' := 82) (st' := []) [pvR 11 0 129, pvI x1, pvL x2] [] (Or.inl rfl) dX11_weights_79 rfl rm_11_339 mtE232 rfl rfl rfl (Nat.le_of_ble_eq_true rfl) (Or.inr ⟨_, _, 129, rfl, Or.inl rfl⟩) k18 rfl ?_
    cases h
    exact go_vret dX11_weights_82 rfl rfl
  · rw [if_neg (show ¬ (j15.2.1 ≠ 0) from c66)] at h
    refine go_lload (pc' := 71) dX11_weights_69 rfl rfl ?_
    refine go_lconst (z := 0) (pc' := 72) dX11_weights_71 rfl rfl ?_
    refine go_lcmp (pc' := 73) dX11_weights_72 rfl ?_
    refine go_if_gt (t := 83) (pc' := 76) dX11_weights_73 rfl rfl (fun c65 => ?_) (fun c65 => ?_)
    · rw [if_pos (show 0 < (lcm j15.1 0) from c65)] at h
      refine go_lload_n (pc' := 84) dX11_weights_83 rfl rfl ?_
      refine go_lstore (L' := [some (pvR 11 0 129), some (pvI x1), some (pvL x2), none, some (pvL j15.1), none, some (pvI j15.2.1), some (pvL x2), none, none, none]) (pc' := 86) dX11_weights_84 rfl (Nat.le_of_ble_eq_true rfl) rfl ?_
      refine go_iconst (pc' := 87) dX11_weights_86 rfl (r32_c rfl) ?_
      refine go_istore (L' := [some (pvR 11 0 129), some (pvI x1), some (pvL x2), none, some (pvL j15.1), none, some (pvI j15.2.1), some (pvL x2), none, some (pvI 0), none]) (pc' := 89) dX11_weights_87 rfl (Nat.le_of_ble_eq_true rfl) rfl ?_
      obtain ⟨j37, k38, h⟩ := bd h
      refine l_M_weights_89 d n e x1 x2 j15 zFuel x2 0 σ _ k38 ?_
      obtain ⟨j61, k62, h⟩ := bd h
      refine l_M_weights_163 d n e x1 x2 j15 zFuel j37.1 j37.2.1 j37.2.2 _ k62 ?_
      cases h
      exact go_vret dX11_weights_245 rfl rfl
    · rw [if_neg (show ¬ (0 < (lcm j15.1 0)) from c65)] at h
      refine go_aload_n (pc' := 77) dX11_weights_76 rfl rfl (Nat.le_of_ble_eq_true rfl) ?_
      refine go_iload_n (pc' := 78) dX11_weights_77 rfl rfl ?_
      refine go_lload_n (pc' := 79) dX11_weights_78 rfl rfl ?_
      obtain ⟨v63, k64, h⟩ := bd h
      have k64 := l_M_equal (d + 0) n e σ x1 x2 _ k64
      refine go_call (kc := 232) (Mc := mt232) (v := none) (w' := (true, n, e, v63)) (pc' := 82) (st' := []) [pvR 11 0 129, pvI x1, pvL x2] [] (Or.inl rfl) dX11_weights_79 rfl rm_11_339 mtE232 rfl rfl rfl (Nat.le_of_ble_eq_true rfl) (Or.inr ⟨_, _, 129, rfl, Or.inl rfl⟩) k64 rfl ?_
      cases h
      exact go_vret dX11_weights_82 rfl rfl

set_option maxRecDepth 10000 in
theorem l_M_remains_6 (d : Nat) (n : Nat) (e : Nat) (x1 : Int) (x2 : Int) {out : Out} : ∀ (F : Nat) (y1 : Int) (y2 : Int) (σ3 : Hp) (j11 : Int × Int × Hp), f_M_remains_6 x1 F y1 y2 σ3 = some j11 → Go none (Ev (d + 0)) mt234 50 [some (pvR 11 0 129), some (pvI x1), some (pvL x2), none, some (pvL j11.1), none, some (pvI j11.2.1)] [] (true, n, e, j11.2.2) out → Go none (Ev (d + 0)) mt234 6 [some (pvR 11 0 129), some (pvI x1), some (pvL x2), none, some (pvL y1), none, some (pvI y2)] [] (true, n, e, σ3) out := by
  intro F
  induction F with
  | zero =>
    intro _ _ _ _ h
    intro _
    rw [f_M_remains_6] at h
    cases h
  | succ F ih =>
    intro y1 y2 σ3 j11 h hx
    rw [f_M_remains_6] at h
    refine go_iload (pc' := 8) dX11_remains_6 rfl rfl ?_
    refine go_iload_n (pc' := 9) dX11_remains_8 rfl rfl ?_
    refine go_icmp_ge (t := 50) (pc' := 12) dX11_remains_9 rfl rfl (fun c10 => ?_) (fun c10 => ?_)
    · rw [if_pos (show x1 ≤ y2 from c10)] at h
      cases h
      exact hx
    · rw [if_neg (show ¬ (x1 ≤ y2) from c10)] at h
      refine go_aload_n (pc' := 13) dX11_remains_12 rfl rfl (Nat.le_of_ble_eq_true rfl) ?_
      refine go_getR (k' := 13) (L0 := 51) (P' := 168) (pc' := 16) dX11_remains_13 rfl rf_11_134 rfl rfl (by omega) ?_
      refine go_iload (pc' := 18) dX11_remains_16 rfl rfl ?_
      refine go_aload_n (pc' := 19) dX11_remains_18 rfl rfl (Nat.le_of_ble_eq_true rfl) ?_
      refine go_getR (k' := 12) (L0 := 51) (P' := 154) (pc' := 22) dX11_remains_19 rfl rf_11_84 rfl rfl (by omega) ?_
      refine go_aload_n (pc' := 23) dX11_remains_22 rfl rfl (Nat.le_of_ble_eq_true rfl) ?_
      refine go_getR (k' := 12) (L0 := 51) (P' := 167) (pc' := 26) dX11_remains_23 rfl rf_11_131 rfl rfl (by omega) ?_
      refine go_iload (pc' := 28) dX11_remains_26 rfl rfl ?_
      obtain ⟨g4, h⟩ := gd h
      refine go_iald (pc' := 29) dX11_remains_28 rfl g4 ?_
      obtain ⟨g5, h⟩ := gd h
      refine go_iald (pc' := 30) dX11_remains_29 rfl g5 ?_
      refine go_i2l (pc' := 31) dX11_remains_30 rfl ?_
      obtain ⟨g6, h⟩ := gd h
      refine go_last (pc' := 32) dX11_remains_31 rfl g6 ?_
      refine go_lload (pc' := 34) dX11_remains_32 rfl rfl ?_
      refine go_aload_n (pc' := 35) dX11_remains_34 rfl rfl (Nat.le_of_ble_eq_true rfl) ?_
      refine go_getR (k' := 13) (L0 := 51) (P' := 168) (pc' := 38) dX11_remains_35 rfl rf_11_134 rfl rfl (by omega) ?_
      refine go_iload (pc' := 40) dX11_remains_38 rfl rfl ?_
      obtain ⟨g7, h⟩ := gd h
      refine go_lald (pc' := 41) dX11_remains_40 rfl g7 ?_
      obtain ⟨g8, h⟩ := gd h
      refine go_ladd (pc' := 42) dX11_remains_41 rfl g8 ?_
      refine go_lstore (L' := [some (pvR 11 0 129), some (pvI x1), some (pvL x2), none, some (pvL (y1 + ((hset σ3 168 y2 (σ3 154 (σ3 167 y2))) 168 y2))), none, some (pvI y2)]) (pc' := 44) dX11_remains_42 rfl (Nat.le_of_ble_eq_true rfl) rfl ?_
      obtain ⟨g9, h⟩ := gd h
      refine go_iinc (L' := [some (pvR 11 0 129), some (pvI x1), some (pvL x2), none, some (pvL (y1 + ((hset σ3 168 y2 (σ3 154 (σ3 167 y2))) 168 y2))), none, some (pvI (y2 + 1))]) (pc' := 47) dX11_remains_44 rfl rfl g9 rfl ?_
      refine go_goto (t := 6) dX11_remains_47 rfl ?_
      exact ih (y1 + ((hset σ3 168 y2 (σ3 154 (σ3 167 y2))) 168 y2)) (y2 + 1) (hset σ3 168 y2 (σ3 154 (σ3 167 y2))) _ h hx

set_option maxRecDepth 10000 in
theorem l_M_remains (d : Nat) (n e : Nat) (σ : Hp) (x1 : Int) (x2 : Int) (r : Hp) (h : f_M_remains σ x1 x2 = some r) : Ev (d + 1) 234 [pvR 11 0 129, pvI x1, pvL x2] (true, n, e, σ) (0, none, true, n, e, r) := by
  unfold f_M_remains at h
  refine Ev.of mtE234 rfl rfl rfl rfl ?_
  show Go none (Ev (d + 0)) mt234 0 [some (pvR 11 0 129), some (pvI x1), some (pvL x2), none, none, none, none] [] (true, n, e, σ) (0, none, true, n, e, r)
  refine go_lconst (z := 0) (pc' := 1) dX11_remains_0 rfl rfl ?_
  refine go_lstore (L' := [some (pvR 11 0 129), some (pvI x1), some (pvL x2), none, some (pvL 0), none, none]) (pc' := 3) dX11_remains_1 rfl (Nat.le_of_ble_eq_true rfl) rfl ?_
  refine go_iconst (pc' := 4) dX11_remains_3 rfl (r32_c rfl) ?_
  refine go_istore (L' := [some (pvR 11 0 129), some (pvI x1), some (pvL x2), none, some (pvL 0), none, some (pvI 1)]) (pc' := 6) dX11_remains_4 rfl (Nat.le_of_ble_eq_true rfl) rfl ?_
  obtain ⟨j12, k13, h⟩ := bd h
  refine l_M_remains_6 d n e x1 x2 zFuel 0 1 σ _ k13 ?_
  refine go_aload_n (pc' := 51) dX11_remains_50 rfl rfl (Nat.le_of_ble_eq_true rfl) ?_
  refine go_getR (k' := 13) (L0 := 51) (P' := 168) (pc' := 54) dX11_remains_51 rfl rf_11_134 rfl rfl (by omega) ?_
  refine go_iconst (pc' := 55) dX11_remains_54 rfl (r32_c rfl) ?_
  refine go_lload_n (pc' := 56) dX11_remains_55 rfl rfl ?_
  refine go_lload (pc' := 58) dX11_remains_56 rfl rfl ?_
  obtain ⟨g14, h⟩ := gd h
  refine go_lsub (pc' := 59) dX11_remains_58 rfl g14 ?_
  obtain ⟨g15, h⟩ := gd h
  refine go_last (pc' := 60) dX11_remains_59 rfl g15 ?_
  cases h
  exact go_vret dX11_remains_60 rfl rfl

set_option maxRecDepth 10000 in
theorem l_M_write_196 (d : Nat) (n : Nat) (e : Nat) (x1 : Int) (x2 : Int) (x3 : Int) (x4 : Int) (x5 : Int) (x6 : Int) (j5 : Int) (v1 : Int) (j25 : Int × Hp) (j31 : Hp) {out : Out} : ∀ (F : Nat) (y41 : Int) (y42 : Int) (j51 : Int × Int), f_M_write_196 j25 j31 F y41 y42 = some j51 → Go none (Ev (d + 6)) mt230 239 [some (pvR 11 0 129), some (pvI x1), some (pvI x2), some (pvI x3), some (pvI x4), some (pvI x5), some (pvI x6), some (pvI v1), some (pvI j5), some (pvI j51.1), some (pvI j25.1), some (pvI j51.2), none, none] [] (true, n, e, j31) out → Go none (Ev (d + 6)) mt230 196 [some (pvR 11 0 129), some (pvI x1), some (pvI x2), some (pvI x3), some (pvI x4), some (pvI x5), some (pvI x6), some (pvI v1), some (pvI j5), some (pvI y41), some (pvI j25.1), some (pvI y42), none, none] [] (true, n, e, j31) out := by
  intro F
  induction F with
  | zero =>
    intro _ _ _ h
    intro _
    rw [f_M_write_196] at h
    cases h
  | succ F ih =>
    intro y41 y42 j51 h hx
    rw [f_M_write_196] at h
    refine go_iload (pc' := 198) dX11_write_196 rfl rfl ?_
    refine go_iload (pc' := 200) dX11_write_198 rfl rfl ?_
    refine go_icmp_ge (t := 239) (pc' := 203) dX11_write_200 rfl rfl (fun c50 => ?_) (fun c50 => ?_)
    · rw [if_pos (show j25.1 ≤ y42 from c50)] at h
      cases h
      exact hx
    · rw [if_neg (show ¬ (j25.1 ≤ y42) from c50)] at h
      refine go_iload (pc' := 205) dX11_write_203 rfl rfl ?_
      refine go_aload_n (pc' := 206) dX11_write_205 rfl rfl (Nat.le_of_ble_eq_true rfl) ?_
      refine go_aload_n (pc' := 207) dX11_write_206 rfl rfl (Nat.le_of_ble_eq_true rfl) ?_
      refine go_getR (k' := 13) (L0 := 51) (P' := 168) (pc' := 210) dX11_write_207 rfl rf_11_134 rfl rfl (by omega) ?_
      refine go_iload (pc' := 212) dX11_write_210 rfl rfl ?_
      obtain ⟨g43, h⟩ := gd h
      refine go_lald (pc' := 213) dX11_write_212 rfl g43 ?_
      refine go_ldc2 (pc' := 216) dX11_write_213 rfl (r64_c rfl) rc_11_213 ?_
      refine go_ldc2 (pc' := 219) dX11_write_216 rfl (r64_c rfl) rc_11_215 ?_
      obtain ⟨v44, k45, h⟩ := bd h
      have k45 := l_M_in (d + 5) n e j31 (j31 168 y42) (-1000000) 1000000 _ k45
      refine go_call (kc := 172) (Mc := mt172) (v := some (pvI v44)) (w' := (true, n, e, j31)) (pc' := 222) (st' := [pvI v44, pvI y41]) [pvR 11 0 129, pvL (j31 168 y42), pvL (-1000000), pvL 1000000] [pvI y41] (Or.inl rfl) dX11_write_219 rfl rm_11_145 mtE172 rfl rfl rfl (Nat.le_of_ble_eq_true rfl) (Or.inr ⟨_, _, 129, rfl, Or.inl rfl⟩) k45 rfl ?_
      obtain ⟨j46, k47, h⟩ := bd h
      have k47J : Go none (Ev (d + 6)) mt230 230 [some (pvR 11 0 129), some (pvI x1), some (pvI x2), some (pvI x3), some (pvI x4), some (pvI x5), some (pvI x6), some (pvI v1), some (pvI j5), some (pvI y41), some (pvI j25.1), some (pvI y42), none, none] [pvI j46, pvI y41] (true, n, e, j31) out := by
        refine go_ior (pc' := 231) dX11_write_230 rfl ?_
        refine go_istore (L' := [some (pvR 11 0 129), some (pvI x1), some (pvI x2), some (pvI x3), some (pvI x4), some (pvI x5), some (pvI x6), some (pvI v1), some (pvI j5), some (pvI (ior y41 j46)), some (pvI j25.1), some (pvI y42), none, none]) (pc' := 233) dX11_write_231 rfl (Nat.le_of_ble_eq_true rfl) rfl ?_
        obtain ⟨g48, h⟩ := gd h
        refine go_iinc (L' := [some (pvR 11 0 129), some (pvI x1), some (pvI x2), some (pvI x3), some (pvI x4), some (pvI x5), some (pvI x6), some (pvI v1), some (pvI j5), some (pvI (ior y41 j46)), some (pvI j25.1), some (pvI (y42 + 1)), none, none]) (pc' := 236) dX11_write_233 rfl rfl g48 rfl ?_
        refine go_goto (t := 196) dX11_write_236 rfl ?_
        exact ih (ior y41 j46) (y42 + 1) _ h hx
      clear h
      have h := k47
      refine go_if_ne (t := 229) (pc' := 225) dX11_write_222 rfl rfl (fun c49 => ?_) (fun c49 => ?_)
      · rw [if_pos (show v44 ≠ 0 from c49)] at h
        refine go_iconst (pc' := 230) dX11_write_229 rfl (r32_c rfl) ?_
        cases h
        exact k47J
      · rw [if_neg (show ¬ (v44 ≠ 0) from c49)] at h
        refine go_iconst (pc' := 226) dX11_write_225 rfl (r32_c rfl) ?_
        refine go_goto (t := 230) dX11_write_226 rfl ?_
        cases h
        exact k47J

set_option maxRecDepth 10000 in
theorem l_M_write_343 (d : Nat) (n : Nat) (e : Nat) (x1 : Int) (x2 : Int) (x3 : Int) (x4 : Int) (x5 : Int) (x6 : Int) (j5 : Int) (v1 : Int) (j25 : Int × Hp) (j52 : Int × Int) (j54 : Int) {out : Out} : ∀ (F : Nat) (y74 : Int) (y75 : Int) (σ76 : Hp) (j92 : Int × Int × Hp), f_M_write_343 j25 F y74 y75 σ76 = some j92 → Go none (Ev (d + 6)) mt230 420 [some (pvR 11 0 129), some (pvI x1), some (pvI x2), some (pvI x3), some (pvI x4), some (pvI x5), some (pvI x6), some (pvI v1), some (pvI j5), some (pvI (ior j52.1 j54)), some (pvI j25.1), some (pvI j92.1), some (pvI j92.2.1), none] [] (true, n, e, j92.2.2) out → Go none (Ev (d + 6)) mt230 343 [some (pvR 11 0 129), some (pvI x1), some (pvI x2), some (pvI x3), some (pvI x4), some (pvI x5), some (pvI x6), some (pvI v1), some (pvI j5), some (pvI (ior j52.1 j54)), some (pvI j25.1), some (pvI y74), some (pvI y75), none] [] (true, n, e, σ76) out := by
  intro F
  induction F with
  | zero =>
    intro _ _ _ _ h
    intro _
    rw [f_M_write_343] at h
    cases h
  | succ F ih =>
    intro y74 y75 σ76 j92 h hx
    rw [f_M_write_343] at h
    refine go_iload (pc' := 345) dX11_write_343 rfl rfl ?_
    refine go_iload (pc' := 347) dX11_write_345 rfl rfl ?_
    refine go_icmp_ge (t := 420) (pc' := 350) dX11_write_347 rfl rfl (fun c91 => ?_) (fun c91 => ?_)
    · rw [if_pos (show j25.1 ≤ y75 from c91)] at h
      cases h
      exact hx
    · rw [if_neg (show ¬ (j25.1 ≤ y75) from c91)] at h
      refine go_aload_n (pc' := 351) dX11_write_350 rfl rfl (Nat.le_of_ble_eq_true rfl) ?_
      refine go_getR (k' := 12) (L0 := 51) (P' := 167) (pc' := 354) dX11_write_351 rfl rf_11_131 rfl rfl (by omega) ?_
      refine go_iload (pc' := 356) dX11_write_354 rfl rfl ?_
      obtain ⟨g77, h⟩ := gd h
      refine go_iald (pc' := 357) dX11_write_356 rfl g77 ?_
      refine go_istore (L' := [some (pvR 11 0 129), some (pvI x1), some (pvI x2), some (pvI x3), some (pvI x4), some (pvI x5), some (pvI x6), some (pvI v1), some (pvI j5), some (pvI (ior j52.1 j54)), some (pvI j25.1), some (pvI y74), some (pvI y75), some (pvI (σ76 167 y75))]) (pc' := 359) dX11_write_357 rfl (Nat.le_of_ble_eq_true rfl) rfl ?_
      refine go_iload (pc' := 361) dX11_write_359 rfl rfl ?_
      refine go_aload_n (pc' := 362) dX11_write_361 rfl rfl (Nat.le_of_ble_eq_true rfl) ?_
      refine go_iload (pc' := 364) dX11_write_362 rfl rfl ?_
      refine go_aload_n (pc' := 365) dX11_write_364 rfl rfl (Nat.le_of_ble_eq_true rfl) ?_
      refine go_getR (k' := 12) (L0 := 51) (P' := 150) (pc' := 368) dX11_write_365 rfl rf_11_72 rfl rfl (by omega) ?_
      refine go_iload (pc' := 370) dX11_write_368 rfl rfl ?_
      obtain ⟨g78, h⟩ := gd h
      refine go_iald (pc' := 371) dX11_write_370 rfl g78 ?_
      refine go_aload_n (pc' := 372) dX11_write_371 rfl rfl (Nat.le_of_ble_eq_true rfl) ?_
      refine go_getR (k' := 12) (L0 := 51) (P' := 151) (pc' := 375) dX11_write_372 rfl rf_11_75 rfl rfl (by omega) ?_
      refine go_iload (pc' := 377) dX11_write_375 rfl rfl ?_
      obtain ⟨g79, h⟩ := gd h
      refine go_iald (pc' := 378) dX11_write_377 rfl g79 ?_
      refine go_aload_n (pc' := 379) dX11_write_378 rfl rfl (Nat.le_of_ble_eq_true rfl) ?_
      refine go_getR (k' := 12) (L0 := 51) (P' := 152) (pc' := 382) dX11_write_379 rfl rf_11_78 rfl rfl (by omega) ?_
      refine go_iload (pc' := 384) dX11_write_382 rfl rfl ?_
      obtain ⟨g80, h⟩ := gd h
      refine go_iald (pc' := 385) dX11_write_384 rfl g80 ?_
      refine go_aload_n (pc' := 386) dX11_write_385 rfl rfl (Nat.le_of_ble_eq_true rfl) ?_
      refine go_getR (k' := 12) (L0 := 51) (P' := 153) (pc' := 389) dX11_write_386 rfl rf_11_81 rfl rfl (by omega) ?_
      refine go_iload (pc' := 391) dX11_write_389 rfl rfl ?_
      obtain ⟨g81, h⟩ := gd h
      refine go_iald (pc' := 392) dX11_write_391 rfl g81 ?_
      refine go_aload_n (pc' := 393) dX11_write_392 rfl rfl (Nat.le_of_ble_eq_true rfl) ?_
      refine go_getR (k' := 13) (L0 := 51) (P' := 168) (pc' := 396) dX11_write_393 rfl rf_11_134 rfl rfl (by omega) ?_
      refine go_iload (pc' := 398) dX11_write_396 rfl rfl ?_
      obtain ⟨g82, h⟩ := gd h
      refine go_lald (pc' := 399) dX11_write_398 rfl g82 ?_
      obtain ⟨g83, h⟩ := gd h
      refine go_l2i (pc' := 400) dX11_write_399 rfl g83 ?_
      obtain ⟨v84, k85, h⟩ := bd h
      have k85 := l_M_put (d + 0) n e σ76 (σ76 167 y75) (σ76 150 (σ76 167 y75)) (σ76 151 (σ76 167 y75)) (σ76 152 (σ76 167 y75)) (σ76 153 (σ76 167 y75)) (σ76 168 y75) _ k85
      refine go_call (kc := 198) (Mc := mt198) (v := some (pvI v84.1)) (w' := (true, n, e, v84.2)) (pc' := 403) (st' := [pvI v84.1, pvI y74]) [pvR 11 0 129, pvI (σ76 167 y75), pvI (σ76 150 (σ76 167 y75)), pvI (σ76 151 (σ76 167 y75)), pvI (σ76 152 (σ76 167 y75)), pvI (σ76 153 (σ76 167 y75)), pvI (σ76 168 y75)] [pvI y74] (Or.inl rfl) dX11_write_400 rfl rm_11_241 mtE198 rfl rfl rfl (Nat.le_of_ble_eq_true rfl) (Or.inr ⟨_, _, 129, rfl, Or.inl rfl⟩) k85 rfl ?_
      obtain ⟨j86, k87, h⟩ := bd h
      have k87J : Go none (Ev (d + 6)) mt230 411 [some (pvR 11 0 129), some (pvI x1), some (pvI x2), some (pvI x3), some (pvI x4), some (pvI x5), some (pvI x6), some (pvI v1), some (pvI j5), some (pvI (ior j52.1 j54)), some (pvI j25.1), some (pvI y74), some (pvI y75), some (pvI (σ76 167 y75))] [pvI j86, pvI y74] (true, n, e, v84.2) out := by
        obtain ⟨g88, h⟩ := gd h
        refine go_iadd (pc' := 412) dX11_write_411 rfl g88 ?_
        refine go_istore (L' := [some (pvR 11 0 129), some (pvI x1), some (pvI x2), some (pvI x3), some (pvI x4), some (pvI x5), some (pvI x6), some (pvI v1), some (pvI j5), some (pvI (ior j52.1 j54)), some (pvI j25.1), some (pvI (y74 + j86)), some (pvI y75), some (pvI (σ76 167 y75))]) (pc' := 414) dX11_write_412 rfl (Nat.le_of_ble_eq_true rfl) rfl ?_
        obtain ⟨g89, h⟩ := gd h
        refine go_iinc (L' := [some (pvR 11 0 129), some (pvI x1), some (pvI x2), some (pvI x3), some (pvI x4), some (pvI x5), some (pvI x6), some (pvI v1), some (pvI j5), some (pvI (ior j52.1 j54)), some (pvI j25.1), some (pvI (y74 + j86)), some (pvI (y75 + 1)), some (pvI (σ76 167 y75))]) (pc' := 417) dX11_write_414 rfl rfl g89 rfl ?_
        refine go_goto (t := 343) dX11_write_417 rfl ?_
        exact go_sub (ih (y74 + j86) (y75 + 1) v84.2 _ h hx) ⟨Or.inr rfl, Or.inr rfl, Or.inr rfl, Or.inr rfl, Or.inr rfl, Or.inr rfl, Or.inr rfl, Or.inr rfl, Or.inr rfl, Or.inr rfl, Or.inr rfl, Or.inr rfl, Or.inr rfl, Or.inl rfl, trivial⟩
      clear h
      have h := k87
      refine go_if_eq (t := 410) (pc' := 406) dX11_write_403 rfl rfl (fun c90 => ?_) (fun c90 => ?_)
      · rw [if_pos (show v84.1 = 0 from c90)] at h
        refine go_iconst (pc' := 411) dX11_write_410 rfl (r32_c rfl) ?_
        cases h
        exact k87J
      · rw [if_neg (show ¬ (v84.1 = 0) from c90)] at h
        refine go_iconst (pc' := 407) dX11_write_406 rfl (r32_c rfl) ?_
        refine go_goto (t := 411) dX11_write_407 rfl ?_
        cases h
        exact k87J

set_option maxRecDepth 10000 in
theorem l_M_write (d : Nat) (n e : Nat) (σ : Hp) (x1 : Int) (x2 : Int) (x3 : Int) (x4 : Int) (x5 : Int) (x6 : Int) (r : Int × Hp) (h : f_M_write σ x1 x2 x3 x4 x5 x6 = some r) : Ev (d + 7) 230 [pvR 11 0 129, pvI x1, pvI x2, pvI x3, pvI x4, pvI x5, pvI x6] (true, n, e, σ) (0, some (pvI r.1), true, n, e, r.2) := by
  unfold f_M_write at h
  refine Ev.of mtE230 rfl rfl rfl rfl ?_
  show Go none (Ev (d + 6)) mt230 0 [some (pvR 11 0 129), some (pvI x1), some (pvI x2), some (pvI x3), some (pvI x4), some (pvI x5), some (pvI x6), none, none, none, none, none, none, none] [] (true, n, e, σ) (0, some (pvI r.1), true, n, e, r.2)
  refine go_aload_n (pc' := 1) dX11_write_0 rfl rfl (Nat.le_of_ble_eq_true rfl) ?_
  refine go_iload_n (pc' := 2) dX11_write_1 rfl rfl ?_
  refine go_iload_n (pc' := 3) dX11_write_2 rfl rfl ?_
  refine go_iload_n (pc' := 4) dX11_write_3 rfl rfl ?_
  refine go_iload (pc' := 6) dX11_write_4 rfl rfl ?_
  obtain ⟨v1, k2, h⟩ := bd h
  have k2 := l_M_areThere (d + 2) n e σ x1 x2 x3 x4 _ k2
  refine go_call (kc := 196) (Mc := mt196) (v := some (pvI v1)) (w' := (true, n, e, σ)) (pc' := 9) (st' := [pvI v1]) [pvR 11 0 129, pvI x1, pvI x2, pvI x3, pvI x4] [] (Or.inl rfl) dX11_write_6 rfl rm_11_233 mtE196 rfl rfl rfl (Nat.le_of_ble_eq_true rfl) (Or.inr ⟨_, _, 129, rfl, Or.inl rfl⟩) k2 rfl ?_
  refine go_istore (L' := [some (pvR 11 0 129), some (pvI x1), some (pvI x2), some (pvI x3), some (pvI x4), some (pvI x5), some (pvI x6), some (pvI v1), none, none, none, none, none, none]) (pc' := 11) dX11_write_9 rfl (Nat.le_of_ble_eq_true rfl) rfl ?_
  refine go_aload_n (pc' := 12) dX11_write_11 rfl rfl (Nat.le_of_ble_eq_true rfl) ?_
  refine go_iload (pc' := 14) dX11_write_12 rfl rfl ?_
  refine go_i2l (pc' := 15) dX11_write_14 rfl ?_
  refine go_lconst (z := 0) (pc' := 16) dX11_write_15 rfl rfl ?_
  refine go_ldc2 (pc' := 19) dX11_write_16 rfl (r64_c rfl) rc_11_215 ?_
  obtain ⟨v3, k4, h⟩ := bd h
  have k4 := l_M_in (d + 5) n e σ x5 0 1000000 _ k4
  refine go_call (kc := 172) (Mc := mt172) (v := some (pvI v3)) (w' := (true, n, e, σ)) (pc' := 22) (st' := [pvI v3]) [pvR 11 0 129, pvL x5, pvL 0, pvL 1000000] [] (Or.inl rfl) dX11_write_19 rfl rm_11_145 mtE172 rfl rfl rfl (Nat.le_of_ble_eq_true rfl) (Or.inr ⟨_, _, 129, rfl, Or.inl rfl⟩) k4 rfl ?_
  obtain ⟨j5, k6, h⟩ := bd h
  have k6J : Go none (Ev (d + 6)) mt230 44 [some (pvR 11 0 129), some (pvI x1), some (pvI x2), some (pvI x3), some (pvI x4), some (pvI x5), some (pvI x6), some (pvI v1), none, none, none, none, none, none] [pvI j5] (true, n, e, σ) (0, some (pvI r.1), true, n, e, r.2) := by
    refine go_istore (L' := [some (pvR 11 0 129), some (pvI x1), some (pvI x2), some (pvI x3), some (pvI x4), some (pvI x5), some (pvI x6), some (pvI v1), some (pvI j5), none, none, none, none, none]) (pc' := 46) dX11_write_44 rfl (Nat.le_of_ble_eq_true rfl) rfl ?_
    refine go_iload (pc' := 48) dX11_write_46 rfl rfl ?_
    obtain ⟨j10, k11, h⟩ := bd h
    have k11J : Go none (Ev (d + 6)) mt230 112 [some (pvR 11 0 129), some (pvI x1), some (pvI x2), some (pvI x3), some (pvI x4), some (pvI x5), some (pvI x6), some (pvI v1), some (pvI j5), none, none, none, none, none] [pvI j10] (true, n, e, σ) (0, some (pvI r.1), true, n, e, r.2) := by
      refine go_istore (L' := [some (pvR 11 0 129), some (pvI x1), some (pvI x2), some (pvI x3), some (pvI x4), some (pvI x5), some (pvI x6), some (pvI v1), some (pvI j5), some (pvI j10), none, none, none, none]) (pc' := 114) dX11_write_112 rfl (Nat.le_of_ble_eq_true rfl) rfl ?_
      refine go_iload (pc' := 116) dX11_write_114 rfl rfl ?_
      obtain ⟨j25, k26, h⟩ := bd h
      have k26J : Go none (Ev (d + 6)) mt230 142 [some (pvR 11 0 129), some (pvI x1), some (pvI x2), some (pvI x3), some (pvI x4), some (pvI x5), some (pvI x6), some (pvI v1), some (pvI j5), some (pvI j10), none, none, none, none] [pvI j25.1] (true, n, e, j25.2) (0, some (pvI r.1), true, n, e, r.2) := by
        refine go_istore (L' := [some (pvR 11 0 129), some (pvI x1), some (pvI x2), some (pvI x3), some (pvI x4), some (pvI x5), some (pvI x6), some (pvI v1), some (pvI j5), some (pvI j10), some (pvI j25.1), none, none, none]) (pc' := 144) dX11_write_142 rfl (Nat.le_of_ble_eq_true rfl) rfl ?_
        refine go_iload (pc' := 146) dX11_write_144 rfl rfl ?_
        obtain ⟨j31, k32, h⟩ := bd h
        have k32J : Go none (Ev (d + 6)) mt230 193 [some (pvR 11 0 129), some (pvI x1), some (pvI x2), some (pvI x3), some (pvI x4), some (pvI x5), some (pvI x6), some (pvI v1), some (pvI j5), some (pvI j10), some (pvI j25.1), none, none, none] [] (true, n, e, j31) (0, some (pvI r.1), true, n, e, r.2) := by
          refine go_iconst (pc' := 194) dX11_write_193 rfl (r32_c rfl) ?_
          refine go_istore (L' := [some (pvR 11 0 129), some (pvI x1), some (pvI x2), some (pvI x3), some (pvI x4), some (pvI x5), some (pvI x6), some (pvI v1), some (pvI j5), some (pvI j10), some (pvI j25.1), some (pvI 0), none, none]) (pc' := 196) dX11_write_194 rfl (Nat.le_of_ble_eq_true rfl) rfl ?_
          obtain ⟨j52, k53, h⟩ := bd h
          refine l_M_write_196 d n e x1 x2 x3 x4 x5 x6 j5 v1 j25 j31 zFuel j10 0 _ k53 ?_
          refine go_iload (pc' := 241) dX11_write_239 rfl rfl ?_
          refine go_iload (pc' := 243) dX11_write_241 rfl rfl ?_
          obtain ⟨j54, k55, h⟩ := bd h
          have k55J : Go none (Ev (d + 6)) mt230 297 [some (pvR 11 0 129), some (pvI x1), some (pvI x2), some (pvI x3), some (pvI x4), some (pvI x5), some (pvI x6), some (pvI v1), some (pvI j5), some (pvI j52.1), some (pvI j25.1), some (pvI j52.2), none, none] [pvI j54, pvI j52.1] (true, n, e, j31) (0, some (pvI r.1), true, n, e, r.2) := by
            refine go_ior (pc' := 298) dX11_write_297 rfl ?_
            refine go_istore (L' := [some (pvR 11 0 129), some (pvI x1), some (pvI x2), some (pvI x3), some (pvI x4), some (pvI x5), some (pvI x6), some (pvI v1), some (pvI j5), some (pvI (ior j52.1 j54)), some (pvI j25.1), some (pvI j52.2), none, none]) (pc' := 300) dX11_write_298 rfl (Nat.le_of_ble_eq_true rfl) rfl ?_
            refine go_aload_n (pc' := 301) dX11_write_300 rfl rfl (Nat.le_of_ble_eq_true rfl) ?_
            refine go_iload (pc' := 303) dX11_write_301 rfl rfl ?_
            obtain ⟨j68, k69, h⟩ := bd h
            have k69J : Go none (Ev (d + 6)) mt230 329 [some (pvR 11 0 129), some (pvI x1), some (pvI x2), some (pvI x3), some (pvI x4), some (pvI x5), some (pvI x6), some (pvI v1), some (pvI j5), some (pvI (ior j52.1 j54)), some (pvI j25.1), some (pvI j52.2), none, none] [pvI j68, pvR 11 0 129] (true, n, e, j31) (0, some (pvI r.1), true, n, e, r.2) := by
              obtain ⟨v72, k73, h⟩ := bd h
              have k73 := l_M_holds (d + 5) n e j31 j68 _ k73
              refine go_call (kc := 174) (Mc := mt174) (v := some (pvI v72.1)) (w' := (true, n, e, v72.2)) (pc' := 332) (st' := [pvI v72.1]) [pvR 11 0 129, pvI j68] [] (Or.inl rfl) dX11_write_329 rfl rm_11_185 mtE174 rfl rfl rfl (Nat.le_of_ble_eq_true rfl) (Or.inr ⟨_, _, 129, rfl, Or.inl rfl⟩) k73 rfl ?_
              refine go_if_eq (t := 337) (pc' := 335) dX11_write_332 rfl rfl (fun c100 => ?_) (fun c100 => ?_)
              · rw [if_pos (show v72.1 = 0 from c100)] at h
                refine go_iconst (pc' := 338) dX11_write_337 rfl (r32_c rfl) ?_
                refine go_istore (L' := [some (pvR 11 0 129), some (pvI x1), some (pvI x2), some (pvI x3), some (pvI x4), some (pvI x5), some (pvI x6), some (pvI v1), some (pvI j5), some (pvI (ior j52.1 j54)), some (pvI j25.1), some (pvI 0), none, none]) (pc' := 340) dX11_write_338 rfl (Nat.le_of_ble_eq_true rfl) rfl ?_
                refine go_iconst (pc' := 341) dX11_write_340 rfl (r32_c rfl) ?_
                refine go_istore (L' := [some (pvR 11 0 129), some (pvI x1), some (pvI x2), some (pvI x3), some (pvI x4), some (pvI x5), some (pvI x6), some (pvI v1), some (pvI j5), some (pvI (ior j52.1 j54)), some (pvI j25.1), some (pvI 0), some (pvI 0), none]) (pc' := 343) dX11_write_341 rfl (Nat.le_of_ble_eq_true rfl) rfl ?_
                obtain ⟨j93, k94, h⟩ := bd h
                refine l_M_write_343 d n e x1 x2 x3 x4 x5 x6 j5 v1 j25 j52 j54 zFuel 0 0 v72.2 _ k94 ?_
                refine go_iload (pc' := 422) dX11_write_420 rfl rfl ?_
                obtain ⟨j95, k96, h⟩ := bd h
                have k96J : Go none (Ev (d + 6)) mt230 441 [some (pvR 11 0 129), some (pvI x1), some (pvI x2), some (pvI x3), some (pvI x4), some (pvI x5), some (pvI x6), some (pvI v1), some (pvI j5), some (pvI (ior j52.1 j54)), some (pvI j25.1), some (pvI j95.1), some (pvI j93.2.1), none] [] (true, n, e, j95.2) (0, some (pvI r.1), true, n, e, r.2) := by
                  refine go_iload (pc' := 443) dX11_write_441 rfl rfl ?_
                  cases h
                  exact go_iret dX11_write_443 rfl rfl
                clear h
                have h := k96
                refine go_if_ne (t := 441) (pc' := 425) dX11_write_422 rfl rfl (fun c99 => ?_) (fun c99 => ?_)
                · rw [if_pos (show j25.1 ≠ 0 from c99)] at h
                  cases h
                  exact k96J
                · rw [if_neg (show ¬ (j25.1 ≠ 0) from c99)] at h
                  refine go_aload_n (pc' := 426) dX11_write_425 rfl rfl (Nat.le_of_ble_eq_true rfl) ?_
                  refine go_iconst (pc' := 427) dX11_write_426 rfl (r32_c rfl) ?_
                  refine go_iload_n (pc' := 428) dX11_write_427 rfl rfl ?_
                  refine go_iload_n (pc' := 429) dX11_write_428 rfl rfl ?_
                  refine go_iload_n (pc' := 430) dX11_write_429 rfl rfl ?_
                  refine go_iload (pc' := 432) dX11_write_430 rfl rfl ?_
                  refine go_iload (pc' := 434) dX11_write_432 rfl rfl ?_
                  obtain ⟨v97, k98, h⟩ := bd h
                  have k98 := l_M_put (d + 0) n e j93.2.2 (-1) x1 x2 x3 x4 x5 _ k98
                  refine go_call (kc := 198) (Mc := mt198) (v := some (pvI v97.1)) (w' := (true, n, e, v97.2)) (pc' := 437) (st' := [pvI v97.1]) [pvR 11 0 129, pvI (-1), pvI x1, pvI x2, pvI x3, pvI x4, pvI x5] [] (Or.inl rfl) dX11_write_434 rfl rm_11_241 mtE198 rfl rfl rfl (Nat.le_of_ble_eq_true rfl) (Or.inr ⟨_, _, 129, rfl, Or.inl rfl⟩) k98 rfl ?_
                  refine go_pop (pc' := 438) dX11_write_437 rfl (Nat.ne_of_beq_eq_false rfl) ?_
                  refine go_iconst (pc' := 439) dX11_write_438 rfl (r32_c rfl) ?_
                  refine go_istore (L' := [some (pvR 11 0 129), some (pvI x1), some (pvI x2), some (pvI x3), some (pvI x4), some (pvI x5), some (pvI x6), some (pvI v1), some (pvI j5), some (pvI (ior j52.1 j54)), some (pvI j25.1), some (pvI 1), some (pvI j93.2.1), none]) (pc' := 441) dX11_write_439 rfl (Nat.le_of_ble_eq_true rfl) rfl ?_
                  cases h
                  exact k96J
              · rw [if_neg (show ¬ (v72.1 = 0) from c100)] at h
                refine go_iconst (pc' := 336) dX11_write_335 rfl (r32_c rfl) ?_
                cases h
                exact go_iret dX11_write_336 rfl rfl
            clear h
            have h := k69
            refine go_if_ne (t := 310) (pc' := 306) dX11_write_303 rfl rfl (fun c101 => ?_) (fun c101 => ?_)
            · rw [if_pos (show v1 ≠ 0 from c101)] at h
              refine go_iload (pc' := 312) dX11_write_310 rfl rfl ?_
              refine go_if_ne (t := 319) (pc' := 315) dX11_write_312 rfl rfl (fun c71 => ?_) (fun c71 => ?_)
              · rw [if_pos (show j5 ≠ 0 from c71)] at h
                refine go_iload (pc' := 321) dX11_write_319 rfl rfl ?_
                refine go_if_eq (t := 328) (pc' := 324) dX11_write_321 rfl rfl (fun c70 => ?_) (fun c70 => ?_)
                · rw [if_pos (show (ior j52.1 j54) = 0 from c70)] at h
                  refine go_iconst (pc' := 329) dX11_write_328 rfl (r32_c rfl) ?_
                  cases h
                  exact k69J
                · rw [if_neg (show ¬ ((ior j52.1 j54) = 0) from c70)] at h
                  refine go_iconst (pc' := 325) dX11_write_324 rfl (r32_c rfl) ?_
                  refine go_goto (t := 329) dX11_write_325 rfl ?_
                  cases h
                  exact k69J
              · rw [if_neg (show ¬ (j5 ≠ 0) from c71)] at h
                refine go_iconst (pc' := 316) dX11_write_315 rfl (r32_c rfl) ?_
                refine go_goto (t := 329) dX11_write_316 rfl ?_
                cases h
                exact k69J
            · rw [if_neg (show ¬ (v1 ≠ 0) from c101)] at h
              refine go_iconst (pc' := 307) dX11_write_306 rfl (r32_c rfl) ?_
              refine go_goto (t := 329) dX11_write_307 rfl ?_
              cases h
              exact k69J
          clear h
          have h := k55
          refine go_if_lt (t := 292) (pc' := 246) dX11_write_243 rfl rfl (fun c102 => ?_) (fun c102 => ?_)
          · rw [if_pos (show j25.1 < 0 from c102)] at h
            refine go_iconst (pc' := 293) dX11_write_292 rfl (r32_c rfl) ?_
            refine go_goto (t := 297) dX11_write_293 rfl ?_
            cases h
            exact k55J
          · rw [if_neg (show ¬ (j25.1 < 0) from c102)] at h
            refine go_iload (pc' := 248) dX11_write_246 rfl rfl ?_
            refine go_if_eq (t := 296) (pc' := 251) dX11_write_248 rfl rfl (fun c67 => ?_) (fun c67 => ?_)
            · rw [if_pos (show v1 = 0 from c67)] at h
              refine go_iconst (pc' := 297) dX11_write_296 rfl (r32_c rfl) ?_
              cases h
              exact k55J
            · rw [if_neg (show ¬ (v1 = 0) from c67)] at h
              refine go_iload (pc' := 253) dX11_write_251 rfl rfl ?_
              refine go_if_ne (t := 296) (pc' := 256) dX11_write_253 rfl rfl (fun c66 => ?_) (fun c66 => ?_)
              · rw [if_pos (show j25.1 ≠ 0 from c66)] at h
                refine go_iconst (pc' := 297) dX11_write_296 rfl (r32_c rfl) ?_
                cases h
                exact k55J
              · rw [if_neg (show ¬ (j25.1 ≠ 0) from c66)] at h
                refine go_aload_n (pc' := 257) dX11_write_256 rfl rfl (Nat.le_of_ble_eq_true rfl) ?_
                refine go_iconst (pc' := 258) dX11_write_257 rfl (r32_c rfl) ?_
                refine go_iload_n (pc' := 259) dX11_write_258 rfl rfl ?_
                obtain ⟨v56, k57, h⟩ := bd h
                have k57 := l_M_isPlain (d + 5) n e j31 0 x1 _ k57
                refine go_call (kc := 173) (Mc := mt173) (v := some (pvI v56)) (w' := (true, n, e, j31)) (pc' := 262) (st' := [pvI v56, pvI j52.1]) [pvR 11 0 129, pvI 0, pvI x1] [pvI j52.1] (Or.inl rfl) dX11_write_259 rfl rm_11_180 mtE173 rfl rfl rfl (Nat.le_of_ble_eq_true rfl) (Or.inr ⟨_, _, 129, rfl, Or.inl rfl⟩) k57 rfl ?_
                refine go_if_eq (t := 292) (pc' := 265) dX11_write_262 rfl rfl (fun c65 => ?_) (fun c65 => ?_)
                · rw [if_pos (show v56 = 0 from c65)] at h
                  refine go_iconst (pc' := 293) dX11_write_292 rfl (r32_c rfl) ?_
                  refine go_goto (t := 297) dX11_write_293 rfl ?_
                  cases h
                  exact k55J
                · rw [if_neg (show ¬ (v56 = 0) from c65)] at h
                  refine go_aload_n (pc' := 266) dX11_write_265 rfl rfl (Nat.le_of_ble_eq_true rfl) ?_
                  refine go_iconst (pc' := 267) dX11_write_266 rfl (r32_c rfl) ?_
                  refine go_iload_n (pc' := 268) dX11_write_267 rfl rfl ?_
                  obtain ⟨v58, k59, h⟩ := bd h
                  have k59 := l_M_isPlain (d + 5) n e j31 1 x2 _ k59
                  refine go_call (kc := 173) (Mc := mt173) (v := some (pvI v58)) (w' := (true, n, e, j31)) (pc' := 271) (st' := [pvI v58, pvI j52.1]) [pvR 11 0 129, pvI 1, pvI x2] [pvI j52.1] (Or.inl rfl) dX11_write_268 rfl rm_11_180 mtE173 rfl rfl rfl (Nat.le_of_ble_eq_true rfl) (Or.inr ⟨_, _, 129, rfl, Or.inl rfl⟩) k59 rfl ?_
                  refine go_if_eq (t := 292) (pc' := 274) dX11_write_271 rfl rfl (fun c64 => ?_) (fun c64 => ?_)
                  · rw [if_pos (show v58 = 0 from c64)] at h
                    refine go_iconst (pc' := 293) dX11_write_292 rfl (r32_c rfl) ?_
                    refine go_goto (t := 297) dX11_write_293 rfl ?_
                    cases h
                    exact k55J
                  · rw [if_neg (show ¬ (v58 = 0) from c64)] at h
                    refine go_aload_n (pc' := 275) dX11_write_274 rfl rfl (Nat.le_of_ble_eq_true rfl) ?_
                    refine go_iconst (pc' := 276) dX11_write_275 rfl (r32_c rfl) ?_
                    refine go_iload_n (pc' := 277) dX11_write_276 rfl rfl ?_
                    obtain ⟨v60, k61, h⟩ := bd h
                    have k61 := l_M_isPlain (d + 5) n e j31 2 x3 _ k61
                    refine go_call (kc := 173) (Mc := mt173) (v := some (pvI v60)) (w' := (true, n, e, j31)) (pc' := 280) (st' := [pvI v60, pvI j52.1]) [pvR 11 0 129, pvI 2, pvI x3] [pvI j52.1] (Or.inl rfl) dX11_write_277 rfl rm_11_180 mtE173 rfl rfl rfl (Nat.le_of_ble_eq_true rfl) (Or.inr ⟨_, _, 129, rfl, Or.inl rfl⟩) k61 rfl ?_
                    refine go_if_eq (t := 292) (pc' := 283) dX11_write_280 rfl rfl (fun c63 => ?_) (fun c63 => ?_)
                    · rw [if_pos (show v60 = 0 from c63)] at h
                      refine go_iconst (pc' := 293) dX11_write_292 rfl (r32_c rfl) ?_
                      refine go_goto (t := 297) dX11_write_293 rfl ?_
                      cases h
                      exact k55J
                    · rw [if_neg (show ¬ (v60 = 0) from c63)] at h
                      refine go_aload_n (pc' := 284) dX11_write_283 rfl rfl (Nat.le_of_ble_eq_true rfl) ?_
                      refine go_getI (pc' := 287) dX11_write_284 rfl rf_11_230 rfl ?_
                      refine go_bipush (pc' := 289) dX11_write_287 rfl (r32_c rfl) (by decide) ?_
                      refine go_icmp_ne (t := 296) (pc' := 292) dX11_write_289 rfl rfl (fun c62 => ?_) (fun c62 => ?_)
                      · rw [if_pos (show (j31 129 29) ≠ 50 from c62)] at h
                        refine go_iconst (pc' := 297) dX11_write_296 rfl (r32_c rfl) ?_
                        cases h
                        exact k55J
                      · rw [if_neg (show ¬ ((j31 129 29) ≠ 50) from c62)] at h
                        refine go_iconst (pc' := 293) dX11_write_292 rfl (r32_c rfl) ?_
                        refine go_goto (t := 297) dX11_write_293 rfl ?_
                        cases h
                        exact k55J
        clear h
        have h := k32
        refine go_if_le (t := 193) (pc' := 149) dX11_write_146 rfl rfl (fun c103 => ?_) (fun c103 => ?_)
        · rw [if_pos (show j25.1 ≤ 0 from c103)] at h
          cases h
          exact k32J
        · rw [if_neg (show ¬ (j25.1 ≤ 0) from c103)] at h
          refine go_iload (pc' := 151) dX11_write_149 rfl rfl ?_
          refine go_if_ne (t := 166) (pc' := 154) dX11_write_151 rfl rfl (fun c40 => ?_) (fun c40 => ?_)
          · rw [if_pos (show x6 ≠ 0 from c40)] at h
            refine go_iload (pc' := 168) dX11_write_166 rfl rfl ?_
            refine go_iconst (pc' := 169) dX11_write_168 rfl (r32_c rfl) ?_
            refine go_icmp_ne (t := 184) (pc' := 172) dX11_write_169 rfl rfl (fun c37 => ?_) (fun c37 => ?_)
            · rw [if_pos (show x6 ≠ 1 from c37)] at h
              refine go_aload_n (pc' := 185) dX11_write_184 rfl rfl (Nat.le_of_ble_eq_true rfl) ?_
              refine go_iload (pc' := 187) dX11_write_185 rfl rfl ?_
              refine go_iload (pc' := 189) dX11_write_187 rfl rfl ?_
              refine go_i2l (pc' := 190) dX11_write_189 rfl ?_
              obtain ⟨v33, k34, h⟩ := bd h
              have k34 := l_M_remains (d + 5) n e j25.2 j25.1 x5 _ k34
              refine go_call (kc := 234) (Mc := mt234) (v := none) (w' := (true, n, e, v33)) (pc' := 193) (st' := []) [pvR 11 0 129, pvI j25.1, pvL x5] [] (Or.inl rfl) dX11_write_190 rfl rm_11_349 mtE234 rfl rfl rfl (Nat.le_of_ble_eq_true rfl) (Or.inr ⟨_, _, 129, rfl, Or.inl rfl⟩) k34 rfl ?_
              cases h
              exact k32J
            · rw [if_neg (show ¬ (x6 ≠ 1) from c37)] at h
              refine go_aload_n (pc' := 173) dX11_write_172 rfl rfl (Nat.le_of_ble_eq_true rfl) ?_
              refine go_iload (pc' := 175) dX11_write_173 rfl rfl ?_
              refine go_iload (pc' := 177) dX11_write_175 rfl rfl ?_
              refine go_i2l (pc' := 178) dX11_write_177 rfl ?_
              obtain ⟨v35, k36, h⟩ := bd h
              have k36 := l_M_weights (d + 4) n e j25.2 j25.1 x5 _ k36
              refine go_call (kc := 233) (Mc := mt233) (v := none) (w' := (true, n, e, v35)) (pc' := 181) (st' := []) [pvR 11 0 129, pvI j25.1, pvL x5] [] (Or.inl rfl) dX11_write_178 rfl rm_11_346 mtE233 rfl rfl rfl (Nat.le_of_ble_eq_true rfl) (Or.inr ⟨_, _, 129, rfl, Or.inl rfl⟩) k36 rfl ?_
              refine go_goto (t := 193) dX11_write_181 rfl ?_
              cases h
              exact k32J
          · rw [if_neg (show ¬ (x6 ≠ 0) from c40)] at h
            refine go_aload_n (pc' := 155) dX11_write_154 rfl rfl (Nat.le_of_ble_eq_true rfl) ?_
            refine go_iload (pc' := 157) dX11_write_155 rfl rfl ?_
            refine go_iload (pc' := 159) dX11_write_157 rfl rfl ?_
            refine go_i2l (pc' := 160) dX11_write_159 rfl ?_
            obtain ⟨v38, k39, h⟩ := bd h
            have k39 := l_M_equal (d + 5) n e j25.2 j25.1 x5 _ k39
            refine go_call (kc := 232) (Mc := mt232) (v := none) (w' := (true, n, e, v38)) (pc' := 163) (st' := []) [pvR 11 0 129, pvI j25.1, pvL x5] [] (Or.inl rfl) dX11_write_160 rfl rm_11_339 mtE232 rfl rfl rfl (Nat.le_of_ble_eq_true rfl) (Or.inr ⟨_, _, 129, rfl, Or.inl rfl⟩) k39 rfl ?_
            refine go_goto (t := 193) dX11_write_163 rfl ?_
            cases h
            exact k32J
      clear h
      have h := k26
      refine go_if_eq (t := 141) (pc' := 119) dX11_write_116 rfl rfl (fun c104 => ?_) (fun c104 => ?_)
      · rw [if_pos (show v1 = 0 from c104)] at h
        refine go_iconst (pc' := 142) dX11_write_141 rfl (r32_c rfl) ?_
        cases h
        exact k26J
      · rw [if_neg (show ¬ (v1 = 0) from c104)] at h
        refine go_iload (pc' := 121) dX11_write_119 rfl rfl ?_
        refine go_if_eq (t := 141) (pc' := 124) dX11_write_121 rfl rfl (fun c30 => ?_) (fun c30 => ?_)
        · rw [if_pos (show j5 = 0 from c30)] at h
          refine go_iconst (pc' := 142) dX11_write_141 rfl (r32_c rfl) ?_
          cases h
          exact k26J
        · rw [if_neg (show ¬ (j5 = 0) from c30)] at h
          refine go_iload (pc' := 126) dX11_write_124 rfl rfl ?_
          refine go_if_ne (t := 141) (pc' := 129) dX11_write_126 rfl rfl (fun c29 => ?_) (fun c29 => ?_)
          · rw [if_pos (show j10 ≠ 0 from c29)] at h
            refine go_iconst (pc' := 142) dX11_write_141 rfl (r32_c rfl) ?_
            cases h
            exact k26J
          · rw [if_neg (show ¬ (j10 ≠ 0) from c29)] at h
            refine go_aload_n (pc' := 130) dX11_write_129 rfl rfl (Nat.le_of_ble_eq_true rfl) ?_
            refine go_iload_n (pc' := 131) dX11_write_130 rfl rfl ?_
            refine go_iload_n (pc' := 132) dX11_write_131 rfl rfl ?_
            refine go_iload_n (pc' := 133) dX11_write_132 rfl rfl ?_
            refine go_iload (pc' := 135) dX11_write_133 rfl rfl ?_
            obtain ⟨v27, k28, h⟩ := bd h
            have k28 := l_M_spots (d + 1) n e σ x1 x2 x3 x4 _ k28
            refine go_call (kc := 231) (Mc := mt231) (v := some (pvI v27.1)) (w' := (true, n, e, v27.2)) (pc' := 138) (st' := [pvI v27.1]) [pvR 11 0 129, pvI x1, pvI x2, pvI x3, pvI x4] [] (Or.inl rfl) dX11_write_135 rfl rm_11_343 mtE231 rfl rfl rfl (Nat.le_of_ble_eq_true rfl) (Or.inr ⟨_, _, 129, rfl, Or.inl rfl⟩) k28 rfl ?_
            refine go_goto (t := 142) dX11_write_138 rfl ?_
            cases h
            exact k26J
    clear h
    have h := k11
    refine go_if_eq (t := 111) (pc' := 51) dX11_write_48 rfl rfl (fun c105 => ?_) (fun c105 => ?_)
    · rw [if_pos (show v1 = 0 from c105)] at h
      refine go_iconst (pc' := 112) dX11_write_111 rfl (r32_c rfl) ?_
      cases h
      exact k11J
    · rw [if_neg (show ¬ (v1 = 0) from c105)] at h
      refine go_aload_n (pc' := 52) dX11_write_51 rfl rfl (Nat.le_of_ble_eq_true rfl) ?_
      refine go_getR (k' := 12) (L0 := 4) (P' := 146) (pc' := 55) dX11_write_52 rfl rf_11_60 rfl rfl (by omega) ?_
      refine go_iload (pc' := 57) dX11_write_55 rfl rfl ?_
      obtain ⟨g12, h⟩ := gd h
      refine go_iald (pc' := 58) dX11_write_57 rfl g12 ?_
      refine go_if_ne (t := 107) (pc' := 61) dX11_write_58 rfl rfl (fun c24 => ?_) (fun c24 => ?_)
      · rw [if_pos (show (σ 146 x4) ≠ 0 from c24)] at h
        refine go_iconst (pc' := 108) dX11_write_107 rfl (r32_c rfl) ?_
        refine go_goto (t := 112) dX11_write_108 rfl ?_
        cases h
        exact k11J
      · rw [if_neg (show ¬ ((σ 146 x4) ≠ 0) from c24)] at h
        refine go_aload_n (pc' := 62) dX11_write_61 rfl rfl (Nat.le_of_ble_eq_true rfl) ?_
        refine go_iload_n (pc' := 63) dX11_write_62 rfl rfl ?_
        refine go_iload_n (pc' := 64) dX11_write_63 rfl rfl ?_
        refine go_iload_n (pc' := 65) dX11_write_64 rfl rfl ?_
        obtain ⟨v13, k14, h⟩ := bd h
        have k14 := l_M_areSeen (d + 2) n e σ x1 x2 x3 _ k14
        refine go_call (kc := 208) (Mc := mt208) (v := some (pvI v13)) (w' := (true, n, e, σ)) (pc' := 68) (st' := [pvI v13]) [pvR 11 0 129, pvI x1, pvI x2, pvI x3] [] (Or.inl rfl) dX11_write_65 rfl rm_11_311 mtE208 rfl rfl rfl (Nat.le_of_ble_eq_true rfl) (Or.inr ⟨_, _, 129, rfl, Or.inl rfl⟩) k14 rfl ?_
        refine go_if_eq (t := 107) (pc' := 71) dX11_write_68 rfl rfl (fun c23 => ?_) (fun c23 => ?_)
        · rw [if_pos (show v13 = 0 from c23)] at h
          refine go_iconst (pc' := 108) dX11_write_107 rfl (r32_c rfl) ?_
          refine go_goto (t := 112) dX11_write_108 rfl ?_
          cases h
          exact k11J
        · rw [if_neg (show ¬ (v13 = 0) from c23)] at h
          refine go_aload_n (pc' := 72) dX11_write_71 rfl rfl (Nat.le_of_ble_eq_true rfl) ?_
          refine go_getR (k' := 12) (L0 := 36) (P' := 131) (pc' := 75) dX11_write_72 rfl rf_11_15 rfl rfl (by omega) ?_
          refine go_iload_n (pc' := 76) dX11_write_75 rfl rfl ?_
          obtain ⟨g15, h⟩ := gd h
          refine go_iald (pc' := 77) dX11_write_76 rfl g15 ?_
          refine go_iconst (pc' := 78) dX11_write_77 rfl (r32_c rfl) ?_
          refine go_icmp_eq (t := 107) (pc' := 81) dX11_write_78 rfl rfl (fun c22 => ?_) (fun c22 => ?_)
          · rw [if_pos (show (σ 131 x1) = 2 from c22)] at h
            refine go_iconst (pc' := 108) dX11_write_107 rfl (r32_c rfl) ?_
            refine go_goto (t := 112) dX11_write_108 rfl ?_
            cases h
            exact k11J
          · rw [if_neg (show ¬ ((σ 131 x1) = 2) from c22)] at h
            refine go_aload_n (pc' := 82) dX11_write_81 rfl rfl (Nat.le_of_ble_eq_true rfl) ?_
            refine go_getR (k' := 12) (L0 := 36) (P' := 131) (pc' := 85) dX11_write_82 rfl rf_11_15 rfl rfl (by omega) ?_
            refine go_bipush (pc' := 87) dX11_write_85 rfl (r32_c rfl) (by decide) ?_
            refine go_iload_n (pc' := 88) dX11_write_87 rfl rfl ?_
            obtain ⟨g16, h⟩ := gd h
            refine go_iadd (pc' := 89) dX11_write_88 rfl g16 ?_
            obtain ⟨g17, h⟩ := gd h
            refine go_iald (pc' := 90) dX11_write_89 rfl g17 ?_
            refine go_iconst (pc' := 91) dX11_write_90 rfl (r32_c rfl) ?_
            refine go_icmp_eq (t := 107) (pc' := 94) dX11_write_91 rfl rfl (fun c21 => ?_) (fun c21 => ?_)
            · rw [if_pos (show (σ 131 (12 + x2)) = 2 from c21)] at h
              refine go_iconst (pc' := 108) dX11_write_107 rfl (r32_c rfl) ?_
              refine go_goto (t := 112) dX11_write_108 rfl ?_
              cases h
              exact k11J
            · rw [if_neg (show ¬ ((σ 131 (12 + x2)) = 2) from c21)] at h
              refine go_aload_n (pc' := 95) dX11_write_94 rfl rfl (Nat.le_of_ble_eq_true rfl) ?_
              refine go_getR (k' := 12) (L0 := 36) (P' := 131) (pc' := 98) dX11_write_95 rfl rf_11_15 rfl rfl (by omega) ?_
              refine go_bipush (pc' := 100) dX11_write_98 rfl (r32_c rfl) (by decide) ?_
              refine go_iload_n (pc' := 101) dX11_write_100 rfl rfl ?_
              obtain ⟨g18, h⟩ := gd h
              refine go_iadd (pc' := 102) dX11_write_101 rfl g18 ?_
              obtain ⟨g19, h⟩ := gd h
              refine go_iald (pc' := 103) dX11_write_102 rfl g19 ?_
              refine go_iconst (pc' := 104) dX11_write_103 rfl (r32_c rfl) ?_
              refine go_icmp_ne (t := 111) (pc' := 107) dX11_write_104 rfl rfl (fun c20 => ?_) (fun c20 => ?_)
              · rw [if_pos (show (σ 131 (24 + x3)) ≠ 2 from c20)] at h
                refine go_iconst (pc' := 112) dX11_write_111 rfl (r32_c rfl) ?_
                cases h
                exact k11J
              · rw [if_neg (show ¬ ((σ 131 (24 + x3)) ≠ 2) from c20)] at h
                refine go_iconst (pc' := 108) dX11_write_107 rfl (r32_c rfl) ?_
                refine go_goto (t := 112) dX11_write_108 rfl ?_
                cases h
                exact k11J
  clear h
  have h := k6
  refine go_if_eq (t := 43) (pc' := 25) dX11_write_22 rfl rfl (fun c106 => ?_) (fun c106 => ?_)
  · rw [if_pos (show v3 = 0 from c106)] at h
    refine go_iconst (pc' := 44) dX11_write_43 rfl (r32_c rfl) ?_
    cases h
    exact k6J
  · rw [if_neg (show ¬ (v3 = 0) from c106)] at h
    refine go_aload_n (pc' := 26) dX11_write_25 rfl rfl (Nat.le_of_ble_eq_true rfl) ?_
    refine go_iload (pc' := 28) dX11_write_26 rfl rfl ?_
    refine go_i2l (pc' := 29) dX11_write_28 rfl ?_
    refine go_lconst (z := 0) (pc' := 30) dX11_write_29 rfl rfl ?_
    refine go_ldc2 (pc' := 33) dX11_write_30 rfl (r64_c rfl) rc_11_143 ?_
    obtain ⟨v7, k8, h⟩ := bd h
    have k8 := l_M_in (d + 5) n e σ x6 0 2 _ k8
    refine go_call (kc := 172) (Mc := mt172) (v := some (pvI v7)) (w' := (true, n, e, σ)) (pc' := 36) (st' := [pvI v7]) [pvR 11 0 129, pvL x6, pvL 0, pvL 2] [] (Or.inl rfl) dX11_write_33 rfl rm_11_145 mtE172 rfl rfl rfl (Nat.le_of_ble_eq_true rfl) (Or.inr ⟨_, _, 129, rfl, Or.inl rfl⟩) k8 rfl ?_
    refine go_if_eq (t := 43) (pc' := 39) dX11_write_36 rfl rfl (fun c9 => ?_) (fun c9 => ?_)
    · rw [if_pos (show v7 = 0 from c9)] at h
      refine go_iconst (pc' := 44) dX11_write_43 rfl (r32_c rfl) ?_
      cases h
      exact k6J
    · rw [if_neg (show ¬ (v7 = 0) from c9)] at h
      refine go_iconst (pc' := 40) dX11_write_39 rfl (r32_c rfl) ?_
      refine go_goto (t := 44) dX11_write_40 rfl ?_
      cases h
      exact k6J

set_option maxRecDepth 10000 in
theorem l_M_begin_29 (d : Nat) (n : Nat) (e : Nat)  {out : Out} : ∀ (F : Nat) (y7 : Int) (σ8 : Hp) (j21 : Int × Hp), f_M_begin_29 F y7 σ8 = some j21 → Go none (Ev (d + 1)) mt235 103 [some (pvR 11 0 129), some (pvI j21.1)] [] (true, n, e, j21.2) out → Go none (Ev (d + 1)) mt235 29 [some (pvR 11 0 129), some (pvI y7)] [] (true, n, e, σ8) out := by
  intro F
  induction F with
  | zero =>
    intro _ _ _ h
    intro _
    rw [f_M_begin_29] at h
    cases h
  | succ F ih =>
    intro y7 σ8 j21 h hx
    rw [f_M_begin_29] at h
    refine go_iload_n (pc' := 30) dX11_begin_29 rfl rfl ?_
    refine go_aload_n (pc' := 31) dX11_begin_30 rfl rfl (Nat.le_of_ble_eq_true rfl) ?_
    refine go_getI (pc' := 34) dX11_begin_31 rfl rf_11_230 rfl ?_
    refine go_icmp_ge (t := 103) (pc' := 37) dX11_begin_34 rfl rfl (fun c20 => ?_) (fun c20 => ?_)
    · rw [if_pos (show (σ8 129 29) ≤ y7 from c20)] at h
      cases h
      exact hx
    · rw [if_neg (show ¬ ((σ8 129 29) ≤ y7) from c20)] at h
      refine go_aload_n (pc' := 38) dX11_begin_37 rfl rfl (Nat.le_of_ble_eq_true rfl) ?_
      refine go_getR (k' := 12) (L0 := 51) (P' := 155) (pc' := 41) dX11_begin_38 rfl rf_11_87 rfl rfl (by omega) ?_
      refine go_iload_n (pc' := 42) dX11_begin_41 rfl rfl ?_
      refine go_aload_n (pc' := 43) dX11_begin_42 rfl rfl (Nat.le_of_ble_eq_true rfl) ?_
      refine go_getR (k' := 12) (L0 := 51) (P' := 150) (pc' := 46) dX11_begin_43 rfl rf_11_72 rfl rfl (by omega) ?_
      refine go_iload_n (pc' := 47) dX11_begin_46 rfl rfl ?_
      obtain ⟨g9, h⟩ := gd h
      refine go_iald (pc' := 48) dX11_begin_47 rfl g9 ?_
      obtain ⟨g10, h⟩ := gd h
      refine go_iast (pc' := 49) dX11_begin_48 rfl g10 ?_
      refine go_aload_n (pc' := 50) dX11_begin_49 rfl rfl (Nat.le_of_ble_eq_true rfl) ?_
      refine go_getR (k' := 12) (L0 := 51) (P' := 156) (pc' := 53) dX11_begin_50 rfl rf_11_90 rfl rfl (by omega) ?_
      refine go_iload_n (pc' := 54) dX11_begin_53 rfl rfl ?_
      refine go_aload_n (pc' := 55) dX11_begin_54 rfl rfl (Nat.le_of_ble_eq_true rfl) ?_
      refine go_getR (k' := 12) (L0 := 51) (P' := 151) (pc' := 58) dX11_begin_55 rfl rf_11_75 rfl rfl (by omega) ?_
      refine go_iload_n (pc' := 59) dX11_begin_58 rfl rfl ?_
      obtain ⟨g11, h⟩ := gd h
      refine go_iald (pc' := 60) dX11_begin_59 rfl g11 ?_
      obtain ⟨g12, h⟩ := gd h
      refine go_iast (pc' := 61) dX11_begin_60 rfl g12 ?_
      refine go_aload_n (pc' := 62) dX11_begin_61 rfl rfl (Nat.le_of_ble_eq_true rfl) ?_
      refine go_getR (k' := 12) (L0 := 51) (P' := 157) (pc' := 65) dX11_begin_62 rfl rf_11_93 rfl rfl (by omega) ?_
      refine go_iload_n (pc' := 66) dX11_begin_65 rfl rfl ?_
      refine go_aload_n (pc' := 67) dX11_begin_66 rfl rfl (Nat.le_of_ble_eq_true rfl) ?_
      refine go_getR (k' := 12) (L0 := 51) (P' := 152) (pc' := 70) dX11_begin_67 rfl rf_11_78 rfl rfl (by omega) ?_
      refine go_iload_n (pc' := 71) dX11_begin_70 rfl rfl ?_
      obtain ⟨g13, h⟩ := gd h
      refine go_iald (pc' := 72) dX11_begin_71 rfl g13 ?_
      obtain ⟨g14, h⟩ := gd h
      refine go_iast (pc' := 73) dX11_begin_72 rfl g14 ?_
      refine go_aload_n (pc' := 74) dX11_begin_73 rfl rfl (Nat.le_of_ble_eq_true rfl) ?_
      refine go_getR (k' := 12) (L0 := 51) (P' := 158) (pc' := 77) dX11_begin_74 rfl rf_11_96 rfl rfl (by omega) ?_
      refine go_iload_n (pc' := 78) dX11_begin_77 rfl rfl ?_
      refine go_aload_n (pc' := 79) dX11_begin_78 rfl rfl (Nat.le_of_ble_eq_true rfl) ?_
      refine go_getR (k' := 12) (L0 := 51) (P' := 153) (pc' := 82) dX11_begin_79 rfl rf_11_81 rfl rfl (by omega) ?_
      refine go_iload_n (pc' := 83) dX11_begin_82 rfl rfl ?_
      obtain ⟨g15, h⟩ := gd h
      refine go_iald (pc' := 84) dX11_begin_83 rfl g15 ?_
      obtain ⟨g16, h⟩ := gd h
      refine go_iast (pc' := 85) dX11_begin_84 rfl g16 ?_
      refine go_aload_n (pc' := 86) dX11_begin_85 rfl rfl (Nat.le_of_ble_eq_true rfl) ?_
      refine go_getR (k' := 12) (L0 := 51) (P' := 159) (pc' := 89) dX11_begin_86 rfl rf_11_99 rfl rfl (by omega) ?_
      refine go_iload_n (pc' := 90) dX11_begin_89 rfl rfl ?_
      refine go_aload_n (pc' := 91) dX11_begin_90 rfl rfl (Nat.le_of_ble_eq_true rfl) ?_
      refine go_getR (k' := 12) (L0 := 51) (P' := 154) (pc' := 94) dX11_begin_91 rfl rf_11_84 rfl rfl (by omega) ?_
      refine go_iload_n (pc' := 95) dX11_begin_94 rfl rfl ?_
      obtain ⟨g17, h⟩ := gd h
      refine go_iald (pc' := 96) dX11_begin_95 rfl g17 ?_
      obtain ⟨g18, h⟩ := gd h
      refine go_iast (pc' := 97) dX11_begin_96 rfl g18 ?_
      obtain ⟨g19, h⟩ := gd h
      refine go_iinc (L' := [some (pvR 11 0 129), some (pvI (y7 + 1))]) (pc' := 100) dX11_begin_97 rfl rfl g19 rfl ?_
      refine go_goto (t := 29) dX11_begin_100 rfl ?_
      exact ih (y7 + 1) (hset (hset (hset (hset (hset σ8 155 y7 (σ8 150 y7)) 156 y7 ((hset σ8 155 y7 (σ8 150 y7)) 151 y7)) 157 y7 ((hset (hset σ8 155 y7 (σ8 150 y7)) 156 y7 ((hset σ8 155 y7 (σ8 150 y7)) 151 y7)) 152 y7)) 158 y7 ((hset (hset (hset σ8 155 y7 (σ8 150 y7)) 156 y7 ((hset σ8 155 y7 (σ8 150 y7)) 151 y7)) 157 y7 ((hset (hset σ8 155 y7 (σ8 150 y7)) 156 y7 ((hset σ8 155 y7 (σ8 150 y7)) 151 y7)) 152 y7)) 153 y7)) 159 y7 ((hset (hset (hset (hset σ8 155 y7 (σ8 150 y7)) 156 y7 ((hset σ8 155 y7 (σ8 150 y7)) 151 y7)) 157 y7 ((hset (hset σ8 155 y7 (σ8 150 y7)) 156 y7 ((hset σ8 155 y7 (σ8 150 y7)) 151 y7)) 152 y7)) 158 y7 ((hset (hset (hset σ8 155 y7 (σ8 150 y7)) 156 y7 ((hset σ8 155 y7 (σ8 150 y7)) 151 y7)) 157 y7 ((hset (hset σ8 155 y7 (σ8 150 y7)) 156 y7 ((hset σ8 155 y7 (σ8 150 y7)) 151 y7)) 152 y7)) 153 y7)) 154 y7)) _ h hx

set_option maxRecDepth 10000 in
theorem l_M_begin (d : Nat) (n e : Nat) (σ : Hp) (r : Hp) (h : f_M_begin σ = some r) : Ev (d + 2) 235 [pvR 11 0 129] (true, n, e, σ) (0, none, true, n, e, r) := by
  unfold f_M_begin at h
  refine Ev.of mtE235 rfl rfl rfl rfl ?_
  show Go none (Ev (d + 1)) mt235 0 [some (pvR 11 0 129), none] [] (true, n, e, σ) (0, none, true, n, e, r)
  refine go_aload_n (pc' := 1) dX11_begin_0 rfl rfl (Nat.le_of_ble_eq_true rfl) ?_
  refine go_aload_n (pc' := 2) dX11_begin_1 rfl rfl (Nat.le_of_ble_eq_true rfl) ?_
  refine go_getI (pc' := 5) dX11_begin_2 rfl rf_11_102 rfl ?_
  obtain ⟨j1, k2, h⟩ := bd h
  have k2J : Go none (Ev (d + 1)) mt235 13 [some (pvR 11 0 129), none] [pvI j1, pvR 11 0 129] (true, n, e, σ) (0, none, true, n, e, r) := by
    obtain ⟨v3, k4, h⟩ := bd h
    have k4 := l_M_holds (d + 0) n e σ j1 _ k4
    refine go_call (kc := 174) (Mc := mt174) (v := some (pvI v3.1)) (w' := (true, n, e, v3.2)) (pc' := 16) (st' := [pvI v3.1]) [pvR 11 0 129, pvI j1] [] (Or.inl rfl) dX11_begin_13 rfl rm_11_185 mtE174 rfl rfl rfl (Nat.le_of_ble_eq_true rfl) (Or.inr ⟨_, _, 129, rfl, Or.inl rfl⟩) k4 rfl ?_
    obtain ⟨j5, k6, h⟩ := bd h
    have k6J : Go none (Ev (d + 1)) mt235 103 [some (pvR 11 0 129), none] [] (true, n, e, j5) (0, none, true, n, e, r) := by
      cases h
      exact go_vret dX11_begin_103 rfl rfl
    clear h
    have h := k6
    refine go_if_ne (t := 103) (pc' := 19) dX11_begin_16 rfl rfl (fun c24 => ?_) (fun c24 => ?_)
    · rw [if_pos (show v3.1 ≠ 0 from c24)] at h
      cases h
      exact k6J
    · rw [if_neg (show ¬ (v3.1 ≠ 0) from c24)] at h
      refine go_aload_n (pc' := 20) dX11_begin_19 rfl rfl (Nat.le_of_ble_eq_true rfl) ?_
      refine go_aload_n (pc' := 21) dX11_begin_20 rfl rfl (Nat.le_of_ble_eq_true rfl) ?_
      refine go_getI (pc' := 24) dX11_begin_21 rfl rf_11_230 rfl ?_
      refine go_putI (pc' := 27) dX11_begin_24 rfl rf_11_102 rfl ?_
      refine go_iconst (pc' := 28) dX11_begin_27 rfl (r32_c rfl) ?_
      refine go_istore_n (L' := [some (pvR 11 0 129), some (pvI 0)]) (pc' := 29) dX11_begin_28 rfl (Nat.le_of_ble_eq_true rfl) rfl ?_
      obtain ⟨j22, k23, h⟩ := bd h
      refine l_M_begin_29 d n e zFuel 0 (hset v3.2 129 35 (v3.2 129 29)) _ k23 ?_
      cases h
      exact go_sub k6J ⟨Or.inr rfl, Or.inl rfl, trivial⟩
  clear h
  have h := k2
  refine go_if_lt (t := 12) (pc' := 8) dX11_begin_5 rfl rfl (fun c25 => ?_) (fun c25 => ?_)
  · rw [if_pos (show (σ 129 35) < 0 from c25)] at h
    refine go_iconst (pc' := 13) dX11_begin_12 rfl (r32_c rfl) ?_
    cases h
    exact k2J
  · rw [if_neg (show ¬ ((σ 129 35) < 0) from c25)] at h
    refine go_iconst (pc' := 9) dX11_begin_8 rfl (r32_c rfl) ?_
    refine go_goto (t := 13) dX11_begin_9 rfl ?_
    cases h
    exact k2J

set_option maxRecDepth 10000 in
theorem l_M_end_35 (d : Nat) (n : Nat) (e : Nat) (x1 : Int) {out : Out} : ∀ (F : Nat) (y7 : Int) (σ8 : Hp) (j18 : Int × Hp), f_M_end_35 F y7 σ8 = some j18 → Go none (Ev (d + 1)) mt236 84 [some (pvR 11 0 129), some (pvI x1), some (pvI j18.1)] [] (true, n, e, j18.2) out → Go none (Ev (d + 1)) mt236 35 [some (pvR 11 0 129), some (pvI x1), some (pvI y7)] [] (true, n, e, σ8) out := by
  intro F
  induction F with
  | zero =>
    intro _ _ _ h
    intro _
    rw [f_M_end_35] at h
    cases h
  | succ F ih =>
    intro y7 σ8 j18 h hx
    rw [f_M_end_35] at h
    refine go_iload_n (pc' := 36) dX11_end_35 rfl rfl ?_
    refine go_aload_n (pc' := 37) dX11_end_36 rfl rfl (Nat.le_of_ble_eq_true rfl) ?_
    refine go_getI (pc' := 40) dX11_end_37 rfl rf_11_230 rfl ?_
    refine go_icmp_ge (t := 84) (pc' := 43) dX11_end_40 rfl rfl (fun c17 => ?_) (fun c17 => ?_)
    · rw [if_pos (show (σ8 129 29) ≤ y7 from c17)] at h
      cases h
      exact hx
    · rw [if_neg (show ¬ ((σ8 129 29) ≤ y7) from c17)] at h
      refine go_aload_n (pc' := 44) dX11_end_43 rfl rfl (Nat.le_of_ble_eq_true rfl) ?_
      refine go_iload_n (pc' := 45) dX11_end_44 rfl rfl ?_
      refine go_aload_n (pc' := 46) dX11_end_45 rfl rfl (Nat.le_of_ble_eq_true rfl) ?_
      refine go_getR (k' := 12) (L0 := 51) (P' := 155) (pc' := 49) dX11_end_46 rfl rf_11_87 rfl rfl (by omega) ?_
      refine go_iload_n (pc' := 50) dX11_end_49 rfl rfl ?_
      obtain ⟨g9, h⟩ := gd h
      refine go_iald (pc' := 51) dX11_end_50 rfl g9 ?_
      refine go_aload_n (pc' := 52) dX11_end_51 rfl rfl (Nat.le_of_ble_eq_true rfl) ?_
      refine go_getR (k' := 12) (L0 := 51) (P' := 156) (pc' := 55) dX11_end_52 rfl rf_11_90 rfl rfl (by omega) ?_
      refine go_iload_n (pc' := 56) dX11_end_55 rfl rfl ?_
      obtain ⟨g10, h⟩ := gd h
      refine go_iald (pc' := 57) dX11_end_56 rfl g10 ?_
      refine go_aload_n (pc' := 58) dX11_end_57 rfl rfl (Nat.le_of_ble_eq_true rfl) ?_
      refine go_getR (k' := 12) (L0 := 51) (P' := 157) (pc' := 61) dX11_end_58 rfl rf_11_93 rfl rfl (by omega) ?_
      refine go_iload_n (pc' := 62) dX11_end_61 rfl rfl ?_
      obtain ⟨g11, h⟩ := gd h
      refine go_iald (pc' := 63) dX11_end_62 rfl g11 ?_
      refine go_aload_n (pc' := 64) dX11_end_63 rfl rfl (Nat.le_of_ble_eq_true rfl) ?_
      refine go_getR (k' := 12) (L0 := 51) (P' := 158) (pc' := 67) dX11_end_64 rfl rf_11_96 rfl rfl (by omega) ?_
      refine go_iload_n (pc' := 68) dX11_end_67 rfl rfl ?_
      obtain ⟨g12, h⟩ := gd h
      refine go_iald (pc' := 69) dX11_end_68 rfl g12 ?_
      refine go_aload_n (pc' := 70) dX11_end_69 rfl rfl (Nat.le_of_ble_eq_true rfl) ?_
      refine go_getR (k' := 12) (L0 := 51) (P' := 159) (pc' := 73) dX11_end_70 rfl rf_11_99 rfl rfl (by omega) ?_
      refine go_iload_n (pc' := 74) dX11_end_73 rfl rfl ?_
      obtain ⟨g13, h⟩ := gd h
      refine go_iald (pc' := 75) dX11_end_74 rfl g13 ?_
      obtain ⟨v14, k15, h⟩ := bd h
      have k15 := l_M_lay (d + 0) n e σ8 y7 (σ8 155 y7) (σ8 156 y7) (σ8 157 y7) (σ8 158 y7) (σ8 159 y7) _ k15
      refine go_call (kc := 199) (Mc := mt199) (v := none) (w' := (true, n, e, v14)) (pc' := 78) (st' := []) [pvR 11 0 129, pvI y7, pvI (σ8 155 y7), pvI (σ8 156 y7), pvI (σ8 157 y7), pvI (σ8 158 y7), pvI (σ8 159 y7)] [] (Or.inl rfl) dX11_end_75 rfl rm_11_245 mtE199 rfl rfl rfl (Nat.le_of_ble_eq_true rfl) (Or.inr ⟨_, _, 129, rfl, Or.inl rfl⟩) k15 rfl ?_
      obtain ⟨g16, h⟩ := gd h
      refine go_iinc (L' := [some (pvR 11 0 129), some (pvI x1), some (pvI (y7 + 1))]) (pc' := 81) dX11_end_78 rfl rfl g16 rfl ?_
      refine go_goto (t := 35) dX11_end_81 rfl ?_
      exact ih (y7 + 1) v14 _ h hx

set_option maxRecDepth 10000 in
theorem l_M_end (d : Nat) (n e : Nat) (σ : Hp) (x1 : Int) (r : Int × Hp) (h : f_M_end σ x1 = some r) : Ev (d + 2) 236 [pvR 11 0 129, pvI x1] (true, n, e, σ) (0, some (pvI r.1), true, n, e, r.2) := by
  unfold f_M_end at h
  refine Ev.of mtE236 rfl rfl rfl rfl ?_
  show Go none (Ev (d + 1)) mt236 0 [some (pvR 11 0 129), some (pvI x1), none] [] (true, n, e, σ) (0, some (pvI r.1), true, n, e, r.2)
  refine go_aload_n (pc' := 1) dX11_end_0 rfl rfl (Nat.le_of_ble_eq_true rfl) ?_
  refine go_aload_n (pc' := 2) dX11_end_1 rfl rfl (Nat.le_of_ble_eq_true rfl) ?_
  refine go_getI (pc' := 5) dX11_end_2 rfl rf_11_102 rfl ?_
  obtain ⟨j1, k2, h⟩ := bd h
  have k2J : Go none (Ev (d + 1)) mt236 13 [some (pvR 11 0 129), some (pvI x1), none] [pvI j1, pvR 11 0 129] (true, n, e, σ) (0, some (pvI r.1), true, n, e, r.2) := by
    obtain ⟨v3, k4, h⟩ := bd h
    have k4 := l_M_holds (d + 0) n e σ j1 _ k4
    refine go_call (kc := 174) (Mc := mt174) (v := some (pvI v3.1)) (w' := (true, n, e, v3.2)) (pc' := 16) (st' := [pvI v3.1]) [pvR 11 0 129, pvI j1] [] (Or.inl rfl) dX11_end_13 rfl rm_11_185 mtE174 rfl rfl rfl (Nat.le_of_ble_eq_true rfl) (Or.inr ⟨_, _, 129, rfl, Or.inl rfl⟩) k4 rfl ?_
    refine go_if_eq (t := 21) (pc' := 19) dX11_end_16 rfl rfl (fun c24 => ?_) (fun c24 => ?_)
    · rw [if_pos (show v3.1 = 0 from c24)] at h
      refine go_iload_n (pc' := 22) dX11_end_21 rfl rfl ?_
      obtain ⟨j5, k6, h⟩ := bd h
      have k6J : Go none (Ev (d + 1)) mt236 88 [some (pvR 11 0 129), some (pvI x1), none] [] (true, n, e, j5) (0, some (pvI r.1), true, n, e, r.2) := by
        refine go_aload_n (pc' := 89) dX11_end_88 rfl rfl (Nat.le_of_ble_eq_true rfl) ?_
        refine go_iconst (pc' := 90) dX11_end_89 rfl (r32_c rfl) ?_
        refine go_putI (pc' := 93) dX11_end_90 rfl rf_11_102 rfl ?_
        refine go_aload_n (pc' := 94) dX11_end_93 rfl rfl (Nat.le_of_ble_eq_true rfl) ?_
        refine go_getI (pc' := 97) dX11_end_94 rfl rf_11_230 rfl ?_
        cases h
        exact go_iret dX11_end_97 rfl rfl
      clear h
      have h := k6
      refine go_if_ne (t := 88) (pc' := 25) dX11_end_22 rfl rfl (fun c23 => ?_) (fun c23 => ?_)
      · rw [if_pos (show x1 ≠ 0 from c23)] at h
        cases h
        exact k6J
      · rw [if_neg (show ¬ (x1 ≠ 0) from c23)] at h
        refine go_aload_n (pc' := 26) dX11_end_25 rfl rfl (Nat.le_of_ble_eq_true rfl) ?_
        refine go_aload_n (pc' := 27) dX11_end_26 rfl rfl (Nat.le_of_ble_eq_true rfl) ?_
        refine go_getI (pc' := 30) dX11_end_27 rfl rf_11_102 rfl ?_
        refine go_putI (pc' := 33) dX11_end_30 rfl rf_11_230 rfl ?_
        refine go_iconst (pc' := 34) dX11_end_33 rfl (r32_c rfl) ?_
        refine go_istore_n (L' := [some (pvR 11 0 129), some (pvI x1), some (pvI 0)]) (pc' := 35) dX11_end_34 rfl (Nat.le_of_ble_eq_true rfl) rfl ?_
        obtain ⟨j19, k20, h⟩ := bd h
        refine l_M_end_35 d n e x1 zFuel 0 (hset v3.2 129 29 (v3.2 129 35)) _ k20 ?_
        refine go_aload_n (pc' := 85) dX11_end_84 rfl rfl (Nat.le_of_ble_eq_true rfl) ?_
        obtain ⟨v21, k22, h⟩ := bd h
        have k22 := l_M_fresh (d + 0) n e j19.2 _ k22
        refine go_call (kc := 178) (Mc := mt178) (v := none) (w' := (true, n, e, v21)) (pc' := 88) (st' := []) [pvR 11 0 129] [] (Or.inl rfl) dX11_end_85 rfl rm_11_194 mtE178 rfl rfl rfl (Nat.le_of_ble_eq_true rfl) (Or.inr ⟨_, _, 129, rfl, Or.inl rfl⟩) k22 rfl ?_
        cases h
        exact go_sub k6J ⟨Or.inr rfl, Or.inr rfl, Or.inl rfl, trivial⟩
    · rw [if_neg (show ¬ (v3.1 = 0) from c24)] at h
      refine go_iconst (pc' := 20) dX11_end_19 rfl (r32_c rfl) ?_
      cases h
      exact go_iret dX11_end_20 rfl rfl
  clear h
  have h := k2
  refine go_if_ge (t := 12) (pc' := 8) dX11_end_5 rfl rfl (fun c25 => ?_) (fun c25 => ?_)
  · rw [if_pos (show 0 ≤ (σ 129 35) from c25)] at h
    refine go_iconst (pc' := 13) dX11_end_12 rfl (r32_c rfl) ?_
    cases h
    exact k2J
  · rw [if_neg (show ¬ (0 ≤ (σ 129 35)) from c25)] at h
    refine go_iconst (pc' := 9) dX11_end_8 rfl (r32_c rfl) ?_
    refine go_goto (t := 13) dX11_end_9 rfl ?_
    cases h
    exact k2J

set_option maxRecDepth 10000 in
theorem l_M_facts (d : Nat) (n e : Nat) (σ : Hp) (r : Int × Hp) (h : f_M_facts σ = some r) : Ev (d + 2) 237 [pvR 11 0 129] (true, n, e, σ) (0, some (pvI r.1), true, n, e, r.2) := by
  unfold f_M_facts at h
  refine Ev.of mtE237 rfl rfl rfl rfl ?_
  show Go none (Ev (d + 1)) mt237 0 [some (pvR 11 0 129)] [] (true, n, e, σ) (0, some (pvI r.1), true, n, e, r.2)
  refine go_aload_n (pc' := 1) dX11_facts_0 rfl rfl (Nat.le_of_ble_eq_true rfl) ?_
  refine go_iconst (pc' := 2) dX11_facts_1 rfl (r32_c rfl) ?_
  obtain ⟨v1, k2, h⟩ := bd h
  have k2 := l_M_holds (d + 0) n e σ 0 _ k2
  refine go_call (kc := 174) (Mc := mt174) (v := some (pvI v1.1)) (w' := (true, n, e, v1.2)) (pc' := 5) (st' := [pvI v1.1]) [pvR 11 0 129, pvI 0] [] (Or.inl rfl) dX11_facts_2 rfl rm_11_185 mtE174 rfl rfl rfl (Nat.le_of_ble_eq_true rfl) (Or.inr ⟨_, _, 129, rfl, Or.inl rfl⟩) k2 rfl ?_
  refine go_pop (pc' := 6) dX11_facts_5 rfl (Nat.ne_of_beq_eq_false rfl) ?_
  refine go_aload_n (pc' := 7) dX11_facts_6 rfl rfl (Nat.le_of_ble_eq_true rfl) ?_
  refine go_getI (pc' := 10) dX11_facts_7 rfl rf_11_230 rfl ?_
  cases h
  exact go_iret dX11_facts_10 rfl rfl

set_option maxRecDepth 10000 in
theorem l_L_law_23 (q : Nat × (Nat → Int32)) (d : Nat) (n : Nat) (e : Nat) (q : Nat × (Nat → Int32)) : ∀ (F : Nat) (y1 : Int) (σ2 : Hp) (n4 : Nat) (e3 : Nat) (r : Int × Nat × Nat × Hp), f_L_law_23 q F y1 σ2 n4 e3 = some r → Go (some q) (Ev (d + 284)) mt238 23 [some (pvS), some (pvR 10 0 0), some (pvR 11 0 129), some (pvR 13 1 170), some (pvI y1), none, none, none] [] (true, n4, e3, σ2) (0, some (pvI r.1), true, r.2.1, r.2.2.1, r.2.2.2) := by
  intro F
  induction F with
  | zero =>
    intro _ _ _ _ _ h
    rw [f_L_law_23] at h
    cases h
  | succ F ih =>
    intro y1 σ2 n4 e3 r h
    rw [f_L_law_23] at h
    refine go_iload (pc' := 25) dL_law_23 rfl rfl ?_
    refine go_aload_n (pc' := 26) dL_law_25 rfl rfl (Nat.le_of_ble_eq_true rfl) ?_
    obtain ⟨g5, h⟩ := gd h
    refine go_slen (pc' := 27) dL_law_26 rfl rfl g5 ?_
    refine go_bipush (pc' := 29) dL_law_27 rfl (r32_c rfl) (by decide) ?_
    obtain ⟨g6, h⟩ := gd h
    refine go_isub (pc' := 30) dL_law_29 rfl g6 ?_
    refine go_icmp_gt (t := 1926) (pc' := 33) dL_law_30 rfl rfl (fun c628 => ?_) (fun c628 => ?_)
    · rw [if_pos (show ((q.1 : Int) - 7) < y1 from c628)] at h
      refine go_iconst (pc' := 1927) dL_law_1926 rfl (r32_c rfl) ?_
      obtain ⟨g7, h⟩ := gd h
      cases h
      exact go_zret dL_law_1927 rfl g7 rfl
    · rw [if_neg (show ¬ (((q.1 : Int) - 7) < y1) from c628)] at h
      refine go_aload_n (pc' := 34) dL_law_33 rfl rfl (Nat.le_of_ble_eq_true rfl) ?_
      refine go_iload (pc' := 36) dL_law_34 rfl rfl ?_
      obtain ⟨g8, h⟩ := gd h
      refine go_sald (pc' := 37) dL_law_36 rfl rfl g8 ?_
      refine go_bipush (pc' := 39) dL_law_37 rfl (r32_c rfl) (by decide) ?_
      refine go_iand (pc' := 40) dL_law_39 rfl ?_
      by_cases c35 : (iand ((q.2 (Int.toNat y1)).toInt) 31) = 0
      · rw [if_pos c35] at h
        refine go_table (t := 156) dL_law_40 (Or.inr ⟨by omega, by omega, by rw [c35]; rfl⟩) rfl ?_
        refine go_aload_n (pc' := 157) dL_law_156 rfl rfl (Nat.le_of_ble_eq_true rfl) ?_
        refine go_aload_n (pc' := 158) dL_law_157 rfl rfl (Nat.le_of_ble_eq_true rfl) ?_
        refine go_iload (pc' := 160) dL_law_158 rfl rfl ?_
        refine go_iconst (pc' := 161) dL_law_160 rfl (r32_c rfl) ?_
        obtain ⟨g9, h⟩ := gd h
        refine go_iadd (pc' := 162) dL_law_161 rfl g9 ?_
        obtain ⟨g10, h⟩ := gd h
        refine go_sald (pc' := 163) dL_law_162 rfl rfl g10 ?_
        refine go_aload_n (pc' := 164) dL_law_163 rfl rfl (Nat.le_of_ble_eq_true rfl) ?_
        refine go_iload (pc' := 166) dL_law_164 rfl rfl ?_
        refine go_iconst (pc' := 167) dL_law_166 rfl (r32_c rfl) ?_
        obtain ⟨g11, h⟩ := gd h
        refine go_iadd (pc' := 168) dL_law_167 rfl g11 ?_
        obtain ⟨g12, h⟩ := gd h
        refine go_sald (pc' := 169) dL_law_168 rfl rfl g12 ?_
        refine go_aload_n (pc' := 170) dL_law_169 rfl rfl (Nat.le_of_ble_eq_true rfl) ?_
        refine go_iload (pc' := 172) dL_law_170 rfl rfl ?_
        refine go_iconst (pc' := 173) dL_law_172 rfl (r32_c rfl) ?_
        obtain ⟨g13, h⟩ := gd h
        refine go_iadd (pc' := 174) dL_law_173 rfl g13 ?_
        obtain ⟨g14, h⟩ := gd h
        refine go_sald (pc' := 175) dL_law_174 rfl rfl g14 ?_
        refine go_aload_n (pc' := 176) dL_law_175 rfl rfl (Nat.le_of_ble_eq_true rfl) ?_
        obtain ⟨v15, k16, h⟩ := bd h
        have k16 := l_L_member (d + 276) n4 e3 σ2 ((q.2 (Int.toNat (y1 + 1))).toInt) ((q.2 (Int.toNat (y1 + 2))).toInt) ((q.2 (Int.toNat (y1 + 3))).toInt) _ k16
        refine go_call (kc := 18) (Mc := mt18) (v := some (pvI v15.1)) (w' := (true, n4, v15.2.1, v15.2.2)) (pc' := 179) (st' := [pvI v15.1]) [pvR 10 0 0, pvI ((q.2 (Int.toNat (y1 + 1))).toInt), pvI ((q.2 (Int.toNat (y1 + 2))).toInt), pvI ((q.2 (Int.toNat (y1 + 3))).toInt), pvR 13 1 170] [] (Or.inr (Or.inl rfl)) dL_law_176 rfl rm_12_87 mtE18 rfl rfl rfl (Nat.le_of_ble_eq_true rfl) (Or.inl (by decide)) k16 rfl ?_
        refine go_istore (L' := [some (pvS), some (pvR 10 0 0), some (pvR 11 0 129), some (pvR 13 1 170), some (pvI y1), some (pvI v15.1), none, none]) (pc' := 181) dL_law_179 rfl (Nat.le_of_ble_eq_true rfl) rfl ?_
        refine go_aload_n (pc' := 182) dL_law_181 rfl rfl (Nat.le_of_ble_eq_true rfl) ?_
        refine go_aload_n (pc' := 183) dL_law_182 rfl rfl (Nat.le_of_ble_eq_true rfl) ?_
        refine go_iload (pc' := 185) dL_law_183 rfl rfl ?_
        refine go_iconst (pc' := 186) dL_law_185 rfl (r32_c rfl) ?_
        obtain ⟨g17, h⟩ := gd h
        refine go_iadd (pc' := 187) dL_law_186 rfl g17 ?_
        obtain ⟨g18, h⟩ := gd h
        refine go_sald (pc' := 188) dL_law_187 rfl rfl g18 ?_
        refine go_aload_n (pc' := 189) dL_law_188 rfl rfl (Nat.le_of_ble_eq_true rfl) ?_
        refine go_iload (pc' := 191) dL_law_189 rfl rfl ?_
        refine go_iconst (pc' := 192) dL_law_191 rfl (r32_c rfl) ?_
        obtain ⟨g19, h⟩ := gd h
        refine go_iadd (pc' := 193) dL_law_192 rfl g19 ?_
        obtain ⟨g20, h⟩ := gd h
        refine go_sald (pc' := 194) dL_law_193 rfl rfl g20 ?_
        refine go_aload_n (pc' := 195) dL_law_194 rfl rfl (Nat.le_of_ble_eq_true rfl) ?_
        refine go_iload (pc' := 197) dL_law_195 rfl rfl ?_
        refine go_iconst (pc' := 198) dL_law_197 rfl (r32_c rfl) ?_
        obtain ⟨g21, h⟩ := gd h
        refine go_iadd (pc' := 199) dL_law_198 rfl g21 ?_
        obtain ⟨g22, h⟩ := gd h
        refine go_sald (pc' := 200) dL_law_199 rfl rfl g22 ?_
        obtain ⟨v23, k24, h⟩ := bd h
        have k24 := l_M_member (d + 280) n4 v15.2.1 v15.2.2 ((q.2 (Int.toNat (y1 + 1))).toInt) ((q.2 (Int.toNat (y1 + 2))).toInt) ((q.2 (Int.toNat (y1 + 3))).toInt) _ k24
        refine go_call (kc := 169) (Mc := mt169) (v := some (pvI v23.1)) (w' := (true, n4, v15.2.1, v23.2)) (pc' := 203) (st' := [pvI v23.1]) [pvR 11 0 129, pvI ((q.2 (Int.toNat (y1 + 1))).toInt), pvI ((q.2 (Int.toNat (y1 + 2))).toInt), pvI ((q.2 (Int.toNat (y1 + 3))).toInt)] [] (Or.inl rfl) dL_law_200 rfl rm_12_92 mtE169 rfl rfl rfl (Nat.le_of_ble_eq_true rfl) (Or.inr ⟨_, _, 129, rfl, Or.inl rfl⟩) k24 rfl ?_
        refine go_istore (L' := [some (pvS), some (pvR 10 0 0), some (pvR 11 0 129), some (pvR 13 1 170), some (pvI y1), some (pvI v15.1), some (pvI v23.1), none]) (pc' := 205) dL_law_203 rfl (Nat.le_of_ble_eq_true rfl) rfl ?_
        refine go_aload_n (pc' := 206) dL_law_205 rfl rfl (Nat.le_of_ble_eq_true rfl) ?_
        obtain ⟨v25, k26, h⟩ := bd h
        have k26 := l_M_thrown (d + 283) n4 v15.2.1 v23.2 _ k26
        refine go_call (kc := 168) (Mc := mt168) (v := some (pvI v25)) (w' := (true, n4, v15.2.1, v23.2)) (pc' := 209) (st' := [pvI v25]) [pvR 11 0 129] [] (Or.inl rfl) dL_law_206 rfl rm_12_93 mtE168 rfl rfl rfl (Nat.le_of_ble_eq_true rfl) (Or.inr ⟨_, _, 129, rfl, Or.inl rfl⟩) k26 rfl ?_
        refine go_iload (pc' := 211) dL_law_209 rfl rfl ?_
        refine go_icmp_eq (t := 216) (pc' := 214) dL_law_211 rfl rfl (fun c34 => ?_) (fun c34 => ?_)
        · rw [if_pos (show v25 = v15.1 from c34)] at h
          refine go_iload (pc' := 218) dL_law_216 rfl rfl ?_
          refine go_if_ne (t := 233) (pc' := 221) dL_law_218 rfl rfl (fun c32 => ?_) (fun c32 => ?_)
          · rw [if_pos (show v15.1 ≠ 0 from c32)] at h
            refine go_goto (t := 1920) dL_law_233 rfl ?_
            obtain ⟨g27, h⟩ := gd h
            refine go_iinc (L' := [some (pvS), some (pvR 10 0 0), some (pvR 11 0 129), some (pvR 13 1 170), some (pvI (y1 + 7)), some (pvI v15.1), some (pvI v23.1), none]) (pc' := 1923) dL_law_1920 rfl rfl g27 rfl ?_
            refine go_goto (t := 23) dL_law_1923 rfl ?_
            exact go_sub (ih (y1 + 7) v23.2 n4 v15.2.1 _ h) ⟨Or.inr rfl, Or.inr rfl, Or.inr rfl, Or.inr rfl, Or.inr rfl, Or.inl rfl, Or.inl rfl, Or.inr rfl, trivial⟩
          · rw [if_neg (show ¬ (v15.1 ≠ 0) from c32)] at h
            refine go_aload_n (pc' := 222) dL_law_221 rfl rfl (Nat.le_of_ble_eq_true rfl) ?_
            refine go_iconst (pc' := 223) dL_law_222 rfl (r32_c rfl) ?_
            obtain ⟨g28, h⟩ := gd h
            refine go_lald (pc' := 224) dL_law_223 rfl g28 ?_
            refine go_iload (pc' := 226) dL_law_224 rfl rfl ?_
            refine go_i2l (pc' := 227) dL_law_226 rfl ?_
            refine go_lcmp (pc' := 228) dL_law_227 rfl ?_
            refine go_if_eq (t := 233) (pc' := 231) dL_law_228 rfl rfl (fun c31 => ?_) (fun c31 => ?_)
            · rw [if_pos (show (lcm (v23.2 170 0) v23.1) = 0 from c31)] at h
              refine go_goto (t := 1920) dL_law_233 rfl ?_
              obtain ⟨g29, h⟩ := gd h
              refine go_iinc (L' := [some (pvS), some (pvR 10 0 0), some (pvR 11 0 129), some (pvR 13 1 170), some (pvI (y1 + 7)), some (pvI v15.1), some (pvI v23.1), none]) (pc' := 1923) dL_law_1920 rfl rfl g29 rfl ?_
              refine go_goto (t := 23) dL_law_1923 rfl ?_
              exact go_sub (ih (y1 + 7) v23.2 n4 v15.2.1 _ h) ⟨Or.inr rfl, Or.inr rfl, Or.inr rfl, Or.inr rfl, Or.inr rfl, Or.inl rfl, Or.inl rfl, Or.inr rfl, trivial⟩
            · rw [if_neg (show ¬ ((lcm (v23.2 170 0) v23.1) = 0) from c31)] at h
              refine go_iconst (pc' := 232) dL_law_231 rfl (r32_c rfl) ?_
              obtain ⟨g30, h⟩ := gd h
              cases h
              exact go_zret dL_law_232 rfl g30 rfl
        · rw [if_neg (show ¬ (v25 = v15.1) from c34)] at h
          refine go_iconst (pc' := 215) dL_law_214 rfl (r32_c rfl) ?_
          obtain ⟨g33, h⟩ := gd h
          cases h
          exact go_zret dL_law_215 rfl g33 rfl
      · rw [if_neg c35] at h
        by_cases c58 : (iand ((q.2 (Int.toNat y1)).toInt) 31) = 1
        · rw [if_pos c58] at h
          refine go_table (t := 236) dL_law_40 (Or.inr ⟨by omega, by omega, by rw [c58]; rfl⟩) rfl ?_
          refine go_aload_n (pc' := 237) dL_law_236 rfl rfl (Nat.le_of_ble_eq_true rfl) ?_
          refine go_aload_n (pc' := 238) dL_law_237 rfl rfl (Nat.le_of_ble_eq_true rfl) ?_
          refine go_iload (pc' := 240) dL_law_238 rfl rfl ?_
          refine go_iconst (pc' := 241) dL_law_240 rfl (r32_c rfl) ?_
          obtain ⟨g36, h⟩ := gd h
          refine go_iadd (pc' := 242) dL_law_241 rfl g36 ?_
          obtain ⟨g37, h⟩ := gd h
          refine go_sald (pc' := 243) dL_law_242 rfl rfl g37 ?_
          refine go_aload_n (pc' := 244) dL_law_243 rfl rfl (Nat.le_of_ble_eq_true rfl) ?_
          refine go_iload (pc' := 246) dL_law_244 rfl rfl ?_
          refine go_iconst (pc' := 247) dL_law_246 rfl (r32_c rfl) ?_
          obtain ⟨g38, h⟩ := gd h
          refine go_iadd (pc' := 248) dL_law_247 rfl g38 ?_
          obtain ⟨g39, h⟩ := gd h
          refine go_sald (pc' := 249) dL_law_248 rfl rfl g39 ?_
          refine go_aload_n (pc' := 250) dL_law_249 rfl rfl (Nat.le_of_ble_eq_true rfl) ?_
          obtain ⟨v40, k41, h⟩ := bd h
          have k41 := l_L_bridge (d + 276) n4 e3 σ2 ((q.2 (Int.toNat (y1 + 1))).toInt) ((q.2 (Int.toNat (y1 + 2))).toInt) _ k41
          refine go_call (kc := 42) (Mc := mt42) (v := some (pvI v40.1)) (w' := (true, n4, v40.2.1, v40.2.2)) (pc' := 253) (st' := [pvI v40.1]) [pvR 10 0 0, pvI ((q.2 (Int.toNat (y1 + 1))).toInt), pvI ((q.2 (Int.toNat (y1 + 2))).toInt), pvR 13 1 170] [] (Or.inr (Or.inl rfl)) dL_law_250 rfl rm_12_97 mtE42 rfl rfl rfl (Nat.le_of_ble_eq_true rfl) (Or.inl (by decide)) k41 rfl ?_
          refine go_istore (L' := [some (pvS), some (pvR 10 0 0), some (pvR 11 0 129), some (pvR 13 1 170), some (pvI y1), some (pvI v40.1), none, none]) (pc' := 255) dL_law_253 rfl (Nat.le_of_ble_eq_true rfl) rfl ?_
          refine go_aload_n (pc' := 256) dL_law_255 rfl rfl (Nat.le_of_ble_eq_true rfl) ?_
          refine go_aload_n (pc' := 257) dL_law_256 rfl rfl (Nat.le_of_ble_eq_true rfl) ?_
          refine go_iload (pc' := 259) dL_law_257 rfl rfl ?_
          refine go_iconst (pc' := 260) dL_law_259 rfl (r32_c rfl) ?_
          obtain ⟨g42, h⟩ := gd h
          refine go_iadd (pc' := 261) dL_law_260 rfl g42 ?_
          obtain ⟨g43, h⟩ := gd h
          refine go_sald (pc' := 262) dL_law_261 rfl rfl g43 ?_
          refine go_aload_n (pc' := 263) dL_law_262 rfl rfl (Nat.le_of_ble_eq_true rfl) ?_
          refine go_iload (pc' := 265) dL_law_263 rfl rfl ?_
          refine go_iconst (pc' := 266) dL_law_265 rfl (r32_c rfl) ?_
          obtain ⟨g44, h⟩ := gd h
          refine go_iadd (pc' := 267) dL_law_266 rfl g44 ?_
          obtain ⟨g45, h⟩ := gd h
          refine go_sald (pc' := 268) dL_law_267 rfl rfl g45 ?_
          obtain ⟨v46, k47, h⟩ := bd h
          have k47 := l_M_bridge (d + 281) n4 v40.2.1 v40.2.2 ((q.2 (Int.toNat (y1 + 1))).toInt) ((q.2 (Int.toNat (y1 + 2))).toInt) _ k47
          refine go_call (kc := 179) (Mc := mt179) (v := some (pvI v46.1)) (w' := (true, n4, v40.2.1, v46.2)) (pc' := 271) (st' := [pvI v46.1]) [pvR 11 0 129, pvI ((q.2 (Int.toNat (y1 + 1))).toInt), pvI ((q.2 (Int.toNat (y1 + 2))).toInt)] [] (Or.inl rfl) dL_law_268 rfl rm_12_100 mtE179 rfl rfl rfl (Nat.le_of_ble_eq_true rfl) (Or.inr ⟨_, _, 129, rfl, Or.inl rfl⟩) k47 rfl ?_
          refine go_istore (L' := [some (pvS), some (pvR 10 0 0), some (pvR 11 0 129), some (pvR 13 1 170), some (pvI y1), some (pvI v40.1), some (pvI v46.1), none]) (pc' := 273) dL_law_271 rfl (Nat.le_of_ble_eq_true rfl) rfl ?_
          refine go_aload_n (pc' := 274) dL_law_273 rfl rfl (Nat.le_of_ble_eq_true rfl) ?_
          obtain ⟨v48, k49, h⟩ := bd h
          have k49 := l_M_thrown (d + 283) n4 v40.2.1 v46.2 _ k49
          refine go_call (kc := 168) (Mc := mt168) (v := some (pvI v48)) (w' := (true, n4, v40.2.1, v46.2)) (pc' := 277) (st' := [pvI v48]) [pvR 11 0 129] [] (Or.inl rfl) dL_law_274 rfl rm_12_93 mtE168 rfl rfl rfl (Nat.le_of_ble_eq_true rfl) (Or.inr ⟨_, _, 129, rfl, Or.inl rfl⟩) k49 rfl ?_
          refine go_iload (pc' := 279) dL_law_277 rfl rfl ?_
          refine go_icmp_eq (t := 284) (pc' := 282) dL_law_279 rfl rfl (fun c57 => ?_) (fun c57 => ?_)
          · rw [if_pos (show v48 = v40.1 from c57)] at h
            refine go_iload (pc' := 286) dL_law_284 rfl rfl ?_
            refine go_if_ne (t := 301) (pc' := 289) dL_law_286 rfl rfl (fun c55 => ?_) (fun c55 => ?_)
            · rw [if_pos (show v40.1 ≠ 0 from c55)] at h
              refine go_goto (t := 1920) dL_law_301 rfl ?_
              obtain ⟨g50, h⟩ := gd h
              refine go_iinc (L' := [some (pvS), some (pvR 10 0 0), some (pvR 11 0 129), some (pvR 13 1 170), some (pvI (y1 + 7)), some (pvI v40.1), some (pvI v46.1), none]) (pc' := 1923) dL_law_1920 rfl rfl g50 rfl ?_
              refine go_goto (t := 23) dL_law_1923 rfl ?_
              exact go_sub (ih (y1 + 7) v46.2 n4 v40.2.1 _ h) ⟨Or.inr rfl, Or.inr rfl, Or.inr rfl, Or.inr rfl, Or.inr rfl, Or.inl rfl, Or.inl rfl, Or.inr rfl, trivial⟩
            · rw [if_neg (show ¬ (v40.1 ≠ 0) from c55)] at h
              refine go_aload_n (pc' := 290) dL_law_289 rfl rfl (Nat.le_of_ble_eq_true rfl) ?_
              refine go_iconst (pc' := 291) dL_law_290 rfl (r32_c rfl) ?_
              obtain ⟨g51, h⟩ := gd h
              refine go_lald (pc' := 292) dL_law_291 rfl g51 ?_
              refine go_iload (pc' := 294) dL_law_292 rfl rfl ?_
              refine go_i2l (pc' := 295) dL_law_294 rfl ?_
              refine go_lcmp (pc' := 296) dL_law_295 rfl ?_
              refine go_if_eq (t := 301) (pc' := 299) dL_law_296 rfl rfl (fun c54 => ?_) (fun c54 => ?_)
              · rw [if_pos (show (lcm (v46.2 170 0) v46.1) = 0 from c54)] at h
                refine go_goto (t := 1920) dL_law_301 rfl ?_
                obtain ⟨g52, h⟩ := gd h
                refine go_iinc (L' := [some (pvS), some (pvR 10 0 0), some (pvR 11 0 129), some (pvR 13 1 170), some (pvI (y1 + 7)), some (pvI v40.1), some (pvI v46.1), none]) (pc' := 1923) dL_law_1920 rfl rfl g52 rfl ?_
                refine go_goto (t := 23) dL_law_1923 rfl ?_
                exact go_sub (ih (y1 + 7) v46.2 n4 v40.2.1 _ h) ⟨Or.inr rfl, Or.inr rfl, Or.inr rfl, Or.inr rfl, Or.inr rfl, Or.inl rfl, Or.inl rfl, Or.inr rfl, trivial⟩
              · rw [if_neg (show ¬ ((lcm (v46.2 170 0) v46.1) = 0) from c54)] at h
                refine go_iconst (pc' := 300) dL_law_299 rfl (r32_c rfl) ?_
                obtain ⟨g53, h⟩ := gd h
                cases h
                exact go_zret dL_law_300 rfl g53 rfl
          · rw [if_neg (show ¬ (v48 = v40.1) from c57)] at h
            refine go_iconst (pc' := 283) dL_law_282 rfl (r32_c rfl) ?_
            obtain ⟨g56, h⟩ := gd h
            cases h
            exact go_zret dL_law_283 rfl g56 rfl
        · rw [if_neg c58] at h
          by_cases c89 : (iand ((q.2 (Int.toNat y1)).toInt) 31) = 2
          · rw [if_pos c89] at h
            refine go_table (t := 304) dL_law_40 (Or.inr ⟨by omega, by omega, by rw [c89]; rfl⟩) rfl ?_
            refine go_aload_n (pc' := 305) dL_law_304 rfl rfl (Nat.le_of_ble_eq_true rfl) ?_
            refine go_aload_n (pc' := 306) dL_law_305 rfl rfl (Nat.le_of_ble_eq_true rfl) ?_
            refine go_iload (pc' := 308) dL_law_306 rfl rfl ?_
            refine go_iconst (pc' := 309) dL_law_308 rfl (r32_c rfl) ?_
            obtain ⟨g59, h⟩ := gd h
            refine go_iadd (pc' := 310) dL_law_309 rfl g59 ?_
            obtain ⟨g60, h⟩ := gd h
            refine go_sald (pc' := 311) dL_law_310 rfl rfl g60 ?_
            refine go_aload_n (pc' := 312) dL_law_311 rfl rfl (Nat.le_of_ble_eq_true rfl) ?_
            refine go_iload (pc' := 314) dL_law_312 rfl rfl ?_
            refine go_iconst (pc' := 315) dL_law_314 rfl (r32_c rfl) ?_
            obtain ⟨g61, h⟩ := gd h
            refine go_iadd (pc' := 316) dL_law_315 rfl g61 ?_
            obtain ⟨g62, h⟩ := gd h
            refine go_sald (pc' := 317) dL_law_316 rfl rfl g62 ?_
            refine go_aload_n (pc' := 318) dL_law_317 rfl rfl (Nat.le_of_ble_eq_true rfl) ?_
            refine go_iload (pc' := 320) dL_law_318 rfl rfl ?_
            refine go_iconst (pc' := 321) dL_law_320 rfl (r32_c rfl) ?_
            obtain ⟨g63, h⟩ := gd h
            refine go_iadd (pc' := 322) dL_law_321 rfl g63 ?_
            obtain ⟨g64, h⟩ := gd h
            refine go_sald (pc' := 323) dL_law_322 rfl rfl g64 ?_
            refine go_aload_n (pc' := 324) dL_law_323 rfl rfl (Nat.le_of_ble_eq_true rfl) ?_
            refine go_iload (pc' := 326) dL_law_324 rfl rfl ?_
            refine go_iconst (pc' := 327) dL_law_326 rfl (r32_c rfl) ?_
            obtain ⟨g65, h⟩ := gd h
            refine go_iadd (pc' := 328) dL_law_327 rfl g65 ?_
            obtain ⟨g66, h⟩ := gd h
            refine go_sald (pc' := 329) dL_law_328 rfl rfl g66 ?_
            refine go_aload_n (pc' := 330) dL_law_329 rfl rfl (Nat.le_of_ble_eq_true rfl) ?_
            obtain ⟨v67, k68, h⟩ := bd h
            have k68 := l_L_move (d + 276) n4 e3 σ2 ((q.2 (Int.toNat (y1 + 1))).toInt) ((q.2 (Int.toNat (y1 + 2))).toInt) ((q.2 (Int.toNat (y1 + 3))).toInt) ((q.2 (Int.toNat (y1 + 4))).toInt) _ k68
            refine go_call (kc := 47) (Mc := mt47) (v := some (pvI v67.1)) (w' := (true, n4, v67.2.1, v67.2.2)) (pc' := 333) (st' := [pvI v67.1]) [pvR 10 0 0, pvI ((q.2 (Int.toNat (y1 + 1))).toInt), pvI ((q.2 (Int.toNat (y1 + 2))).toInt), pvI ((q.2 (Int.toNat (y1 + 3))).toInt), pvI ((q.2 (Int.toNat (y1 + 4))).toInt), pvR 13 1 170] [] (Or.inr (Or.inl rfl)) dL_law_330 rfl rm_12_101 mtE47 rfl rfl rfl (Nat.le_of_ble_eq_true rfl) (Or.inl (by decide)) k68 rfl ?_
            refine go_istore (L' := [some (pvS), some (pvR 10 0 0), some (pvR 11 0 129), some (pvR 13 1 170), some (pvI y1), some (pvI v67.1), none, none]) (pc' := 335) dL_law_333 rfl (Nat.le_of_ble_eq_true rfl) rfl ?_
            refine go_aload_n (pc' := 336) dL_law_335 rfl rfl (Nat.le_of_ble_eq_true rfl) ?_
            refine go_aload_n (pc' := 337) dL_law_336 rfl rfl (Nat.le_of_ble_eq_true rfl) ?_
            refine go_iload (pc' := 339) dL_law_337 rfl rfl ?_
            refine go_iconst (pc' := 340) dL_law_339 rfl (r32_c rfl) ?_
            obtain ⟨g69, h⟩ := gd h
            refine go_iadd (pc' := 341) dL_law_340 rfl g69 ?_
            obtain ⟨g70, h⟩ := gd h
            refine go_sald (pc' := 342) dL_law_341 rfl rfl g70 ?_
            refine go_aload_n (pc' := 343) dL_law_342 rfl rfl (Nat.le_of_ble_eq_true rfl) ?_
            refine go_iload (pc' := 345) dL_law_343 rfl rfl ?_
            refine go_iconst (pc' := 346) dL_law_345 rfl (r32_c rfl) ?_
            obtain ⟨g71, h⟩ := gd h
            refine go_iadd (pc' := 347) dL_law_346 rfl g71 ?_
            obtain ⟨g72, h⟩ := gd h
            refine go_sald (pc' := 348) dL_law_347 rfl rfl g72 ?_
            refine go_aload_n (pc' := 349) dL_law_348 rfl rfl (Nat.le_of_ble_eq_true rfl) ?_
            refine go_iload (pc' := 351) dL_law_349 rfl rfl ?_
            refine go_iconst (pc' := 352) dL_law_351 rfl (r32_c rfl) ?_
            obtain ⟨g73, h⟩ := gd h
            refine go_iadd (pc' := 353) dL_law_352 rfl g73 ?_
            obtain ⟨g74, h⟩ := gd h
            refine go_sald (pc' := 354) dL_law_353 rfl rfl g74 ?_
            refine go_aload_n (pc' := 355) dL_law_354 rfl rfl (Nat.le_of_ble_eq_true rfl) ?_
            refine go_iload (pc' := 357) dL_law_355 rfl rfl ?_
            refine go_iconst (pc' := 358) dL_law_357 rfl (r32_c rfl) ?_
            obtain ⟨g75, h⟩ := gd h
            refine go_iadd (pc' := 359) dL_law_358 rfl g75 ?_
            obtain ⟨g76, h⟩ := gd h
            refine go_sald (pc' := 360) dL_law_359 rfl rfl g76 ?_
            obtain ⟨v77, k78, h⟩ := bd h
            have k78 := l_M_move (d + 280) n4 v67.2.1 v67.2.2 ((q.2 (Int.toNat (y1 + 1))).toInt) ((q.2 (Int.toNat (y1 + 2))).toInt) ((q.2 (Int.toNat (y1 + 3))).toInt) ((q.2 (Int.toNat (y1 + 4))).toInt) _ k78
            refine go_call (kc := 180) (Mc := mt180) (v := some (pvI v77.1)) (w' := (true, n4, v67.2.1, v77.2)) (pc' := 363) (st' := [pvI v77.1]) [pvR 11 0 129, pvI ((q.2 (Int.toNat (y1 + 1))).toInt), pvI ((q.2 (Int.toNat (y1 + 2))).toInt), pvI ((q.2 (Int.toNat (y1 + 3))).toInt), pvI ((q.2 (Int.toNat (y1 + 4))).toInt)] [] (Or.inl rfl) dL_law_360 rfl rm_12_104 mtE180 rfl rfl rfl (Nat.le_of_ble_eq_true rfl) (Or.inr ⟨_, _, 129, rfl, Or.inl rfl⟩) k78 rfl ?_
            refine go_istore (L' := [some (pvS), some (pvR 10 0 0), some (pvR 11 0 129), some (pvR 13 1 170), some (pvI y1), some (pvI v67.1), some (pvI v77.1), none]) (pc' := 365) dL_law_363 rfl (Nat.le_of_ble_eq_true rfl) rfl ?_
            refine go_aload_n (pc' := 366) dL_law_365 rfl rfl (Nat.le_of_ble_eq_true rfl) ?_
            obtain ⟨v79, k80, h⟩ := bd h
            have k80 := l_M_thrown (d + 283) n4 v67.2.1 v77.2 _ k80
            refine go_call (kc := 168) (Mc := mt168) (v := some (pvI v79)) (w' := (true, n4, v67.2.1, v77.2)) (pc' := 369) (st' := [pvI v79]) [pvR 11 0 129] [] (Or.inl rfl) dL_law_366 rfl rm_12_93 mtE168 rfl rfl rfl (Nat.le_of_ble_eq_true rfl) (Or.inr ⟨_, _, 129, rfl, Or.inl rfl⟩) k80 rfl ?_
            refine go_iload (pc' := 371) dL_law_369 rfl rfl ?_
            refine go_icmp_eq (t := 376) (pc' := 374) dL_law_371 rfl rfl (fun c88 => ?_) (fun c88 => ?_)
            · rw [if_pos (show v79 = v67.1 from c88)] at h
              refine go_iload (pc' := 378) dL_law_376 rfl rfl ?_
              refine go_if_ne (t := 393) (pc' := 381) dL_law_378 rfl rfl (fun c86 => ?_) (fun c86 => ?_)
              · rw [if_pos (show v67.1 ≠ 0 from c86)] at h
                refine go_goto (t := 1920) dL_law_393 rfl ?_
                obtain ⟨g81, h⟩ := gd h
                refine go_iinc (L' := [some (pvS), some (pvR 10 0 0), some (pvR 11 0 129), some (pvR 13 1 170), some (pvI (y1 + 7)), some (pvI v67.1), some (pvI v77.1), none]) (pc' := 1923) dL_law_1920 rfl rfl g81 rfl ?_
                refine go_goto (t := 23) dL_law_1923 rfl ?_
                exact go_sub (ih (y1 + 7) v77.2 n4 v67.2.1 _ h) ⟨Or.inr rfl, Or.inr rfl, Or.inr rfl, Or.inr rfl, Or.inr rfl, Or.inl rfl, Or.inl rfl, Or.inr rfl, trivial⟩
              · rw [if_neg (show ¬ (v67.1 ≠ 0) from c86)] at h
                refine go_aload_n (pc' := 382) dL_law_381 rfl rfl (Nat.le_of_ble_eq_true rfl) ?_
                refine go_iconst (pc' := 383) dL_law_382 rfl (r32_c rfl) ?_
                obtain ⟨g82, h⟩ := gd h
                refine go_lald (pc' := 384) dL_law_383 rfl g82 ?_
                refine go_iload (pc' := 386) dL_law_384 rfl rfl ?_
                refine go_i2l (pc' := 387) dL_law_386 rfl ?_
                refine go_lcmp (pc' := 388) dL_law_387 rfl ?_
                refine go_if_eq (t := 393) (pc' := 391) dL_law_388 rfl rfl (fun c85 => ?_) (fun c85 => ?_)
                · rw [if_pos (show (lcm (v77.2 170 0) v77.1) = 0 from c85)] at h
                  refine go_goto (t := 1920) dL_law_393 rfl ?_
                  obtain ⟨g83, h⟩ := gd h
                  refine go_iinc (L' := [some (pvS), some (pvR 10 0 0), some (pvR 11 0 129), some (pvR 13 1 170), some (pvI (y1 + 7)), some (pvI v67.1), some (pvI v77.1), none]) (pc' := 1923) dL_law_1920 rfl rfl g83 rfl ?_
                  refine go_goto (t := 23) dL_law_1923 rfl ?_
                  exact go_sub (ih (y1 + 7) v77.2 n4 v67.2.1 _ h) ⟨Or.inr rfl, Or.inr rfl, Or.inr rfl, Or.inr rfl, Or.inr rfl, Or.inl rfl, Or.inl rfl, Or.inr rfl, trivial⟩
                · rw [if_neg (show ¬ ((lcm (v77.2 170 0) v77.1) = 0) from c85)] at h
                  refine go_iconst (pc' := 392) dL_law_391 rfl (r32_c rfl) ?_
                  obtain ⟨g84, h⟩ := gd h
                  cases h
                  exact go_zret dL_law_392 rfl g84 rfl
            · rw [if_neg (show ¬ (v79 = v67.1) from c88)] at h
              refine go_iconst (pc' := 375) dL_law_374 rfl (r32_c rfl) ?_
              obtain ⟨g87, h⟩ := gd h
              cases h
              exact go_zret dL_law_375 rfl g87 rfl
          · rw [if_neg c89] at h
            by_cases c107 : (iand ((q.2 (Int.toNat y1)).toInt) 31) = 3
            · rw [if_pos c107] at h
              refine go_table (t := 396) dL_law_40 (Or.inr ⟨by omega, by omega, by rw [c107]; rfl⟩) rfl ?_
              refine go_aload_n (pc' := 397) dL_law_396 rfl rfl (Nat.le_of_ble_eq_true rfl) ?_
              refine go_aload_n (pc' := 398) dL_law_397 rfl rfl (Nat.le_of_ble_eq_true rfl) ?_
              refine go_iload (pc' := 400) dL_law_398 rfl rfl ?_
              refine go_iconst (pc' := 401) dL_law_400 rfl (r32_c rfl) ?_
              obtain ⟨g90, h⟩ := gd h
              refine go_iadd (pc' := 402) dL_law_401 rfl g90 ?_
              obtain ⟨g91, h⟩ := gd h
              refine go_sald (pc' := 403) dL_law_402 rfl rfl g91 ?_
              obtain ⟨j92, k93, h⟩ := bd h
              have k93J : Go (some q) (Ev (d + 284)) mt238 411 [some (pvS), some (pvR 10 0 0), some (pvR 11 0 129), some (pvR 13 1 170), some (pvI y1), none, none, none] [pvI j92, pvR 10 0 0] (true, n4, e3, σ2) (0, some (pvI r.1), true, r.2.1, r.2.2.1, r.2.2.2) := by
                obtain ⟨v94, k95, h⟩ := bd h
                have k95 := l_C_asNow (d + 282) n4 e3 σ2 j92 _ k95
                refine go_call (kc := 12) (Mc := mt12) (v := some (pvI v94.1)) (w' := (true, n4, e3, v94.2)) (pc' := 414) (st' := [pvI v94.1]) [pvR 10 0 0, pvI j92] [] (Or.inl rfl) dL_law_411 rfl rm_12_105 mtE12 rfl rfl rfl (Nat.le_of_ble_eq_true rfl) (Or.inr ⟨_, _, 0, rfl, Or.inl rfl⟩) k95 rfl ?_
                refine go_aload_n (pc' := 415) dL_law_414 rfl rfl (Nat.le_of_ble_eq_true rfl) ?_
                refine go_aload_n (pc' := 416) dL_law_415 rfl rfl (Nat.le_of_ble_eq_true rfl) ?_
                refine go_iload (pc' := 418) dL_law_416 rfl rfl ?_
                refine go_iconst (pc' := 419) dL_law_418 rfl (r32_c rfl) ?_
                obtain ⟨g96, h⟩ := gd h
                refine go_iadd (pc' := 420) dL_law_419 rfl g96 ?_
                obtain ⟨g97, h⟩ := gd h
                refine go_sald (pc' := 421) dL_law_420 rfl rfl g97 ?_
                obtain ⟨j98, k99, h⟩ := bd h
                have k99J : Go (some q) (Ev (d + 284)) mt238 429 [some (pvS), some (pvR 10 0 0), some (pvR 11 0 129), some (pvR 13 1 170), some (pvI y1), none, none, none] [pvI j98, pvR 11 0 129, pvI v94.1] (true, n4, e3, v94.2) (0, some (pvI r.1), true, r.2.1, r.2.2.1, r.2.2.2) := by
                  obtain ⟨v100, k101, h⟩ := bd h
                  have k101 := l_M_asNow (d + 282) n4 e3 v94.2 j98 _ k101
                  refine go_call (kc := 183) (Mc := mt183) (v := some (pvI v100.1)) (w' := (true, n4, e3, v100.2)) (pc' := 432) (st' := [pvI v100.1, pvI v94.1]) [pvR 11 0 129, pvI j98] [pvI v94.1] (Or.inl rfl) dL_law_429 rfl rm_12_109 mtE183 rfl rfl rfl (Nat.le_of_ble_eq_true rfl) (Or.inr ⟨_, _, 129, rfl, Or.inl rfl⟩) k101 rfl ?_
                  refine go_icmp_eq (t := 1920) (pc' := 435) dL_law_432 rfl rfl (fun c104 => ?_) (fun c104 => ?_)
                  · rw [if_pos (show v94.1 = v100.1 from c104)] at h
                    obtain ⟨g102, h⟩ := gd h
                    refine go_iinc (L' := [some (pvS), some (pvR 10 0 0), some (pvR 11 0 129), some (pvR 13 1 170), some (pvI (y1 + 7)), none, none, none]) (pc' := 1923) dL_law_1920 rfl rfl g102 rfl ?_
                    refine go_goto (t := 23) dL_law_1923 rfl ?_
                    exact ih (y1 + 7) v100.2 n4 e3 _ h
                  · rw [if_neg (show ¬ (v94.1 = v100.1) from c104)] at h
                    refine go_iconst (pc' := 436) dL_law_435 rfl (r32_c rfl) ?_
                    obtain ⟨g103, h⟩ := gd h
                    cases h
                    exact go_zret dL_law_436 rfl g103 rfl
                clear h
                have h := k99
                refine go_if_eq (t := 428) (pc' := 424) dL_law_421 rfl rfl (fun c105 => ?_) (fun c105 => ?_)
                · rw [if_pos (show ((q.2 (Int.toNat (y1 + 1))).toInt) = 0 from c105)] at h
                  refine go_iconst (pc' := 429) dL_law_428 rfl (r32_c rfl) ?_
                  cases h
                  exact k99J
                · rw [if_neg (show ¬ (((q.2 (Int.toNat (y1 + 1))).toInt) = 0) from c105)] at h
                  refine go_iconst (pc' := 425) dL_law_424 rfl (r32_c rfl) ?_
                  refine go_goto (t := 429) dL_law_425 rfl ?_
                  cases h
                  exact k99J
              clear h
              have h := k93
              refine go_if_eq (t := 410) (pc' := 406) dL_law_403 rfl rfl (fun c106 => ?_) (fun c106 => ?_)
              · rw [if_pos (show ((q.2 (Int.toNat (y1 + 1))).toInt) = 0 from c106)] at h
                refine go_iconst (pc' := 411) dL_law_410 rfl (r32_c rfl) ?_
                cases h
                exact k93J
              · rw [if_neg (show ¬ (((q.2 (Int.toNat (y1 + 1))).toInt) = 0) from c106)] at h
                refine go_iconst (pc' := 407) dL_law_406 rfl (r32_c rfl) ?_
                refine go_goto (t := 411) dL_law_407 rfl ?_
                cases h
                exact k93J
            · rw [if_neg c107] at h
              by_cases c134 : (iand ((q.2 (Int.toNat y1)).toInt) 31) = 4
              · rw [if_pos c134] at h
                refine go_table (t := 437) dL_law_40 (Or.inr ⟨by omega, by omega, by rw [c134]; rfl⟩) rfl ?_
                refine go_aload_n (pc' := 438) dL_law_437 rfl rfl (Nat.le_of_ble_eq_true rfl) ?_
                refine go_aload_n (pc' := 439) dL_law_438 rfl rfl (Nat.le_of_ble_eq_true rfl) ?_
                refine go_iload (pc' := 441) dL_law_439 rfl rfl ?_
                refine go_iconst (pc' := 442) dL_law_441 rfl (r32_c rfl) ?_
                obtain ⟨g108, h⟩ := gd h
                refine go_iadd (pc' := 443) dL_law_442 rfl g108 ?_
                obtain ⟨g109, h⟩ := gd h
                refine go_sald (pc' := 444) dL_law_443 rfl rfl g109 ?_
                refine go_aload_n (pc' := 445) dL_law_444 rfl rfl (Nat.le_of_ble_eq_true rfl) ?_
                refine go_iload (pc' := 447) dL_law_445 rfl rfl ?_
                refine go_iconst (pc' := 448) dL_law_447 rfl (r32_c rfl) ?_
                obtain ⟨g110, h⟩ := gd h
                refine go_iadd (pc' := 449) dL_law_448 rfl g110 ?_
                obtain ⟨g111, h⟩ := gd h
                refine go_sald (pc' := 450) dL_law_449 rfl rfl g111 ?_
                refine go_aload_n (pc' := 451) dL_law_450 rfl rfl (Nat.le_of_ble_eq_true rfl) ?_
                refine go_iload (pc' := 453) dL_law_451 rfl rfl ?_
                refine go_iconst (pc' := 454) dL_law_453 rfl (r32_c rfl) ?_
                obtain ⟨g112, h⟩ := gd h
                refine go_iadd (pc' := 455) dL_law_454 rfl g112 ?_
                obtain ⟨g113, h⟩ := gd h
                refine go_sald (pc' := 456) dL_law_455 rfl rfl g113 ?_
                refine go_aload_n (pc' := 457) dL_law_456 rfl rfl (Nat.le_of_ble_eq_true rfl) ?_
                obtain ⟨v114, k115, h⟩ := bd h
                have k115 := l_L_memberAt (d + 280) n4 e3 σ2 ((q.2 (Int.toNat (y1 + 1))).toInt) ((q.2 (Int.toNat (y1 + 2))).toInt) ((q.2 (Int.toNat (y1 + 3))).toInt) _ k115
                refine go_call (kc := 52) (Mc := mt52) (v := some (pvI v114.1)) (w' := (true, n4, v114.2.1, v114.2.2)) (pc' := 460) (st' := [pvI v114.1]) [pvR 10 0 0, pvI ((q.2 (Int.toNat (y1 + 1))).toInt), pvI ((q.2 (Int.toNat (y1 + 2))).toInt), pvI ((q.2 (Int.toNat (y1 + 3))).toInt), pvR 13 1 170] [] (Or.inr (Or.inl rfl)) dL_law_457 rfl rm_12_110 mtE52 rfl rfl rfl (Nat.le_of_ble_eq_true rfl) (Or.inl (by decide)) k115 rfl ?_
                refine go_istore (L' := [some (pvS), some (pvR 10 0 0), some (pvR 11 0 129), some (pvR 13 1 170), some (pvI y1), some (pvI v114.1), none, none]) (pc' := 462) dL_law_460 rfl (Nat.le_of_ble_eq_true rfl) rfl ?_
                refine go_aload_n (pc' := 463) dL_law_462 rfl rfl (Nat.le_of_ble_eq_true rfl) ?_
                refine go_aload_n (pc' := 464) dL_law_463 rfl rfl (Nat.le_of_ble_eq_true rfl) ?_
                refine go_iload (pc' := 466) dL_law_464 rfl rfl ?_
                refine go_iconst (pc' := 467) dL_law_466 rfl (r32_c rfl) ?_
                obtain ⟨g116, h⟩ := gd h
                refine go_iadd (pc' := 468) dL_law_467 rfl g116 ?_
                obtain ⟨g117, h⟩ := gd h
                refine go_sald (pc' := 469) dL_law_468 rfl rfl g117 ?_
                refine go_aload_n (pc' := 470) dL_law_469 rfl rfl (Nat.le_of_ble_eq_true rfl) ?_
                refine go_iload (pc' := 472) dL_law_470 rfl rfl ?_
                refine go_iconst (pc' := 473) dL_law_472 rfl (r32_c rfl) ?_
                obtain ⟨g118, h⟩ := gd h
                refine go_iadd (pc' := 474) dL_law_473 rfl g118 ?_
                obtain ⟨g119, h⟩ := gd h
                refine go_sald (pc' := 475) dL_law_474 rfl rfl g119 ?_
                refine go_aload_n (pc' := 476) dL_law_475 rfl rfl (Nat.le_of_ble_eq_true rfl) ?_
                refine go_iload (pc' := 478) dL_law_476 rfl rfl ?_
                refine go_iconst (pc' := 479) dL_law_478 rfl (r32_c rfl) ?_
                obtain ⟨g120, h⟩ := gd h
                refine go_iadd (pc' := 480) dL_law_479 rfl g120 ?_
                obtain ⟨g121, h⟩ := gd h
                refine go_sald (pc' := 481) dL_law_480 rfl rfl g121 ?_
                obtain ⟨v122, k123, h⟩ := bd h
                have k123 := l_M_memberAt (d + 280) n4 v114.2.1 v114.2.2 ((q.2 (Int.toNat (y1 + 1))).toInt) ((q.2 (Int.toNat (y1 + 2))).toInt) ((q.2 (Int.toNat (y1 + 3))).toInt) _ k123
                refine go_call (kc := 184) (Mc := mt184) (v := some (pvI v122.1)) (w' := (true, n4, v114.2.1, v122.2)) (pc' := 484) (st' := [pvI v122.1]) [pvR 11 0 129, pvI ((q.2 (Int.toNat (y1 + 1))).toInt), pvI ((q.2 (Int.toNat (y1 + 2))).toInt), pvI ((q.2 (Int.toNat (y1 + 3))).toInt)] [] (Or.inl rfl) dL_law_481 rfl rm_12_112 mtE184 rfl rfl rfl (Nat.le_of_ble_eq_true rfl) (Or.inr ⟨_, _, 129, rfl, Or.inl rfl⟩) k123 rfl ?_
                refine go_istore (L' := [some (pvS), some (pvR 10 0 0), some (pvR 11 0 129), some (pvR 13 1 170), some (pvI y1), some (pvI v114.1), some (pvI v122.1), none]) (pc' := 486) dL_law_484 rfl (Nat.le_of_ble_eq_true rfl) rfl ?_
                refine go_aload_n (pc' := 487) dL_law_486 rfl rfl (Nat.le_of_ble_eq_true rfl) ?_
                obtain ⟨v124, k125, h⟩ := bd h
                have k125 := l_M_thrown (d + 283) n4 v114.2.1 v122.2 _ k125
                refine go_call (kc := 168) (Mc := mt168) (v := some (pvI v124)) (w' := (true, n4, v114.2.1, v122.2)) (pc' := 490) (st' := [pvI v124]) [pvR 11 0 129] [] (Or.inl rfl) dL_law_487 rfl rm_12_93 mtE168 rfl rfl rfl (Nat.le_of_ble_eq_true rfl) (Or.inr ⟨_, _, 129, rfl, Or.inl rfl⟩) k125 rfl ?_
                refine go_iload (pc' := 492) dL_law_490 rfl rfl ?_
                refine go_icmp_eq (t := 497) (pc' := 495) dL_law_492 rfl rfl (fun c133 => ?_) (fun c133 => ?_)
                · rw [if_pos (show v124 = v114.1 from c133)] at h
                  refine go_iload (pc' := 499) dL_law_497 rfl rfl ?_
                  refine go_if_ne (t := 514) (pc' := 502) dL_law_499 rfl rfl (fun c131 => ?_) (fun c131 => ?_)
                  · rw [if_pos (show v114.1 ≠ 0 from c131)] at h
                    refine go_goto (t := 1920) dL_law_514 rfl ?_
                    obtain ⟨g126, h⟩ := gd h
                    refine go_iinc (L' := [some (pvS), some (pvR 10 0 0), some (pvR 11 0 129), some (pvR 13 1 170), some (pvI (y1 + 7)), some (pvI v114.1), some (pvI v122.1), none]) (pc' := 1923) dL_law_1920 rfl rfl g126 rfl ?_
                    refine go_goto (t := 23) dL_law_1923 rfl ?_
                    exact go_sub (ih (y1 + 7) v122.2 n4 v114.2.1 _ h) ⟨Or.inr rfl, Or.inr rfl, Or.inr rfl, Or.inr rfl, Or.inr rfl, Or.inl rfl, Or.inl rfl, Or.inr rfl, trivial⟩
                  · rw [if_neg (show ¬ (v114.1 ≠ 0) from c131)] at h
                    refine go_aload_n (pc' := 503) dL_law_502 rfl rfl (Nat.le_of_ble_eq_true rfl) ?_
                    refine go_iconst (pc' := 504) dL_law_503 rfl (r32_c rfl) ?_
                    obtain ⟨g127, h⟩ := gd h
                    refine go_lald (pc' := 505) dL_law_504 rfl g127 ?_
                    refine go_iload (pc' := 507) dL_law_505 rfl rfl ?_
                    refine go_i2l (pc' := 508) dL_law_507 rfl ?_
                    refine go_lcmp (pc' := 509) dL_law_508 rfl ?_
                    refine go_if_eq (t := 514) (pc' := 512) dL_law_509 rfl rfl (fun c130 => ?_) (fun c130 => ?_)
                    · rw [if_pos (show (lcm (v122.2 170 0) v122.1) = 0 from c130)] at h
                      refine go_goto (t := 1920) dL_law_514 rfl ?_
                      obtain ⟨g128, h⟩ := gd h
                      refine go_iinc (L' := [some (pvS), some (pvR 10 0 0), some (pvR 11 0 129), some (pvR 13 1 170), some (pvI (y1 + 7)), some (pvI v114.1), some (pvI v122.1), none]) (pc' := 1923) dL_law_1920 rfl rfl g128 rfl ?_
                      refine go_goto (t := 23) dL_law_1923 rfl ?_
                      exact go_sub (ih (y1 + 7) v122.2 n4 v114.2.1 _ h) ⟨Or.inr rfl, Or.inr rfl, Or.inr rfl, Or.inr rfl, Or.inr rfl, Or.inl rfl, Or.inl rfl, Or.inr rfl, trivial⟩
                    · rw [if_neg (show ¬ ((lcm (v122.2 170 0) v122.1) = 0) from c130)] at h
                      refine go_iconst (pc' := 513) dL_law_512 rfl (r32_c rfl) ?_
                      obtain ⟨g129, h⟩ := gd h
                      cases h
                      exact go_zret dL_law_513 rfl g129 rfl
                · rw [if_neg (show ¬ (v124 = v114.1) from c133)] at h
                  refine go_iconst (pc' := 496) dL_law_495 rfl (r32_c rfl) ?_
                  obtain ⟨g132, h⟩ := gd h
                  cases h
                  exact go_zret dL_law_496 rfl g132 rfl
              · rw [if_neg c134] at h
                by_cases c161 : (iand ((q.2 (Int.toNat y1)).toInt) 31) = 5
                · rw [if_pos c161] at h
                  refine go_table (t := 517) dL_law_40 (Or.inr ⟨by omega, by omega, by rw [c161]; rfl⟩) rfl ?_
                  refine go_aload_n (pc' := 518) dL_law_517 rfl rfl (Nat.le_of_ble_eq_true rfl) ?_
                  refine go_aload_n (pc' := 519) dL_law_518 rfl rfl (Nat.le_of_ble_eq_true rfl) ?_
                  refine go_iload (pc' := 521) dL_law_519 rfl rfl ?_
                  refine go_iconst (pc' := 522) dL_law_521 rfl (r32_c rfl) ?_
                  obtain ⟨g135, h⟩ := gd h
                  refine go_iadd (pc' := 523) dL_law_522 rfl g135 ?_
                  obtain ⟨g136, h⟩ := gd h
                  refine go_sald (pc' := 524) dL_law_523 rfl rfl g136 ?_
                  refine go_aload_n (pc' := 525) dL_law_524 rfl rfl (Nat.le_of_ble_eq_true rfl) ?_
                  refine go_iload (pc' := 527) dL_law_525 rfl rfl ?_
                  refine go_iconst (pc' := 528) dL_law_527 rfl (r32_c rfl) ?_
                  obtain ⟨g137, h⟩ := gd h
                  refine go_iadd (pc' := 529) dL_law_528 rfl g137 ?_
                  obtain ⟨g138, h⟩ := gd h
                  refine go_sald (pc' := 530) dL_law_529 rfl rfl g138 ?_
                  refine go_aload_n (pc' := 531) dL_law_530 rfl rfl (Nat.le_of_ble_eq_true rfl) ?_
                  refine go_iload (pc' := 533) dL_law_531 rfl rfl ?_
                  refine go_iconst (pc' := 534) dL_law_533 rfl (r32_c rfl) ?_
                  obtain ⟨g139, h⟩ := gd h
                  refine go_iadd (pc' := 535) dL_law_534 rfl g139 ?_
                  obtain ⟨g140, h⟩ := gd h
                  refine go_sald (pc' := 536) dL_law_535 rfl rfl g140 ?_
                  refine go_aload_n (pc' := 537) dL_law_536 rfl rfl (Nat.le_of_ble_eq_true rfl) ?_
                  obtain ⟨v141, k142, h⟩ := bd h
                  have k142 := l_L_word (d + 281) n4 e3 σ2 ((q.2 (Int.toNat (y1 + 1))).toInt) ((q.2 (Int.toNat (y1 + 2))).toInt) ((q.2 (Int.toNat (y1 + 3))).toInt) _ k142
                  refine go_call (kc := 55) (Mc := mt55) (v := some (pvI v141.1)) (w' := (true, n4, v141.2.1, v141.2.2)) (pc' := 540) (st' := [pvI v141.1]) [pvR 10 0 0, pvI ((q.2 (Int.toNat (y1 + 1))).toInt), pvI ((q.2 (Int.toNat (y1 + 2))).toInt), pvI ((q.2 (Int.toNat (y1 + 3))).toInt), pvR 13 1 170] [] (Or.inr (Or.inl rfl)) dL_law_537 rfl rm_12_113 mtE55 rfl rfl rfl (Nat.le_of_ble_eq_true rfl) (Or.inl (by decide)) k142 rfl ?_
                  refine go_istore (L' := [some (pvS), some (pvR 10 0 0), some (pvR 11 0 129), some (pvR 13 1 170), some (pvI y1), some (pvI v141.1), none, none]) (pc' := 542) dL_law_540 rfl (Nat.le_of_ble_eq_true rfl) rfl ?_
                  refine go_aload_n (pc' := 543) dL_law_542 rfl rfl (Nat.le_of_ble_eq_true rfl) ?_
                  refine go_aload_n (pc' := 544) dL_law_543 rfl rfl (Nat.le_of_ble_eq_true rfl) ?_
                  refine go_iload (pc' := 546) dL_law_544 rfl rfl ?_
                  refine go_iconst (pc' := 547) dL_law_546 rfl (r32_c rfl) ?_
                  obtain ⟨g143, h⟩ := gd h
                  refine go_iadd (pc' := 548) dL_law_547 rfl g143 ?_
                  obtain ⟨g144, h⟩ := gd h
                  refine go_sald (pc' := 549) dL_law_548 rfl rfl g144 ?_
                  refine go_aload_n (pc' := 550) dL_law_549 rfl rfl (Nat.le_of_ble_eq_true rfl) ?_
                  refine go_iload (pc' := 552) dL_law_550 rfl rfl ?_
                  refine go_iconst (pc' := 553) dL_law_552 rfl (r32_c rfl) ?_
                  obtain ⟨g145, h⟩ := gd h
                  refine go_iadd (pc' := 554) dL_law_553 rfl g145 ?_
                  obtain ⟨g146, h⟩ := gd h
                  refine go_sald (pc' := 555) dL_law_554 rfl rfl g146 ?_
                  refine go_aload_n (pc' := 556) dL_law_555 rfl rfl (Nat.le_of_ble_eq_true rfl) ?_
                  refine go_iload (pc' := 558) dL_law_556 rfl rfl ?_
                  refine go_iconst (pc' := 559) dL_law_558 rfl (r32_c rfl) ?_
                  obtain ⟨g147, h⟩ := gd h
                  refine go_iadd (pc' := 560) dL_law_559 rfl g147 ?_
                  obtain ⟨g148, h⟩ := gd h
                  refine go_sald (pc' := 561) dL_law_560 rfl rfl g148 ?_
                  obtain ⟨v149, k150, h⟩ := bd h
                  have k150 := l_M_word (d + 282) n4 v141.2.1 v141.2.2 ((q.2 (Int.toNat (y1 + 1))).toInt) ((q.2 (Int.toNat (y1 + 2))).toInt) ((q.2 (Int.toNat (y1 + 3))).toInt) _ k150
                  refine go_call (kc := 187) (Mc := mt187) (v := some (pvI v149.1)) (w' := (true, n4, v141.2.1, v149.2)) (pc' := 564) (st' := [pvI v149.1]) [pvR 11 0 129, pvI ((q.2 (Int.toNat (y1 + 1))).toInt), pvI ((q.2 (Int.toNat (y1 + 2))).toInt), pvI ((q.2 (Int.toNat (y1 + 3))).toInt)] [] (Or.inl rfl) dL_law_561 rfl rm_12_115 mtE187 rfl rfl rfl (Nat.le_of_ble_eq_true rfl) (Or.inr ⟨_, _, 129, rfl, Or.inl rfl⟩) k150 rfl ?_
                  refine go_istore (L' := [some (pvS), some (pvR 10 0 0), some (pvR 11 0 129), some (pvR 13 1 170), some (pvI y1), some (pvI v141.1), some (pvI v149.1), none]) (pc' := 566) dL_law_564 rfl (Nat.le_of_ble_eq_true rfl) rfl ?_
                  refine go_aload_n (pc' := 567) dL_law_566 rfl rfl (Nat.le_of_ble_eq_true rfl) ?_
                  obtain ⟨v151, k152, h⟩ := bd h
                  have k152 := l_M_thrown (d + 283) n4 v141.2.1 v149.2 _ k152
                  refine go_call (kc := 168) (Mc := mt168) (v := some (pvI v151)) (w' := (true, n4, v141.2.1, v149.2)) (pc' := 570) (st' := [pvI v151]) [pvR 11 0 129] [] (Or.inl rfl) dL_law_567 rfl rm_12_93 mtE168 rfl rfl rfl (Nat.le_of_ble_eq_true rfl) (Or.inr ⟨_, _, 129, rfl, Or.inl rfl⟩) k152 rfl ?_
                  refine go_iload (pc' := 572) dL_law_570 rfl rfl ?_
                  refine go_icmp_eq (t := 577) (pc' := 575) dL_law_572 rfl rfl (fun c160 => ?_) (fun c160 => ?_)
                  · rw [if_pos (show v151 = v141.1 from c160)] at h
                    refine go_iload (pc' := 579) dL_law_577 rfl rfl ?_
                    refine go_if_ne (t := 594) (pc' := 582) dL_law_579 rfl rfl (fun c158 => ?_) (fun c158 => ?_)
                    · rw [if_pos (show v141.1 ≠ 0 from c158)] at h
                      refine go_goto (t := 1920) dL_law_594 rfl ?_
                      obtain ⟨g153, h⟩ := gd h
                      refine go_iinc (L' := [some (pvS), some (pvR 10 0 0), some (pvR 11 0 129), some (pvR 13 1 170), some (pvI (y1 + 7)), some (pvI v141.1), some (pvI v149.1), none]) (pc' := 1923) dL_law_1920 rfl rfl g153 rfl ?_
                      refine go_goto (t := 23) dL_law_1923 rfl ?_
                      exact go_sub (ih (y1 + 7) v149.2 n4 v141.2.1 _ h) ⟨Or.inr rfl, Or.inr rfl, Or.inr rfl, Or.inr rfl, Or.inr rfl, Or.inl rfl, Or.inl rfl, Or.inr rfl, trivial⟩
                    · rw [if_neg (show ¬ (v141.1 ≠ 0) from c158)] at h
                      refine go_aload_n (pc' := 583) dL_law_582 rfl rfl (Nat.le_of_ble_eq_true rfl) ?_
                      refine go_iconst (pc' := 584) dL_law_583 rfl (r32_c rfl) ?_
                      obtain ⟨g154, h⟩ := gd h
                      refine go_lald (pc' := 585) dL_law_584 rfl g154 ?_
                      refine go_iload (pc' := 587) dL_law_585 rfl rfl ?_
                      refine go_i2l (pc' := 588) dL_law_587 rfl ?_
                      refine go_lcmp (pc' := 589) dL_law_588 rfl ?_
                      refine go_if_eq (t := 594) (pc' := 592) dL_law_589 rfl rfl (fun c157 => ?_) (fun c157 => ?_)
                      · rw [if_pos (show (lcm (v149.2 170 0) v149.1) = 0 from c157)] at h
                        refine go_goto (t := 1920) dL_law_594 rfl ?_
                        obtain ⟨g155, h⟩ := gd h
                        refine go_iinc (L' := [some (pvS), some (pvR 10 0 0), some (pvR 11 0 129), some (pvR 13 1 170), some (pvI (y1 + 7)), some (pvI v141.1), some (pvI v149.1), none]) (pc' := 1923) dL_law_1920 rfl rfl g155 rfl ?_
                        refine go_goto (t := 23) dL_law_1923 rfl ?_
                        exact go_sub (ih (y1 + 7) v149.2 n4 v141.2.1 _ h) ⟨Or.inr rfl, Or.inr rfl, Or.inr rfl, Or.inr rfl, Or.inr rfl, Or.inl rfl, Or.inl rfl, Or.inr rfl, trivial⟩
                      · rw [if_neg (show ¬ ((lcm (v149.2 170 0) v149.1) = 0) from c157)] at h
                        refine go_iconst (pc' := 593) dL_law_592 rfl (r32_c rfl) ?_
                        obtain ⟨g156, h⟩ := gd h
                        cases h
                        exact go_zret dL_law_593 rfl g156 rfl
                  · rw [if_neg (show ¬ (v151 = v141.1) from c160)] at h
                    refine go_iconst (pc' := 576) dL_law_575 rfl (r32_c rfl) ?_
                    obtain ⟨g159, h⟩ := gd h
                    cases h
                    exact go_zret dL_law_576 rfl g159 rfl
                · rw [if_neg c161] at h
                  by_cases c184 : (iand ((q.2 (Int.toNat y1)).toInt) 31) = 6
                  · rw [if_pos c184] at h
                    refine go_table (t := 597) dL_law_40 (Or.inr ⟨by omega, by omega, by rw [c184]; rfl⟩) rfl ?_
                    refine go_aload_n (pc' := 598) dL_law_597 rfl rfl (Nat.le_of_ble_eq_true rfl) ?_
                    refine go_aload_n (pc' := 599) dL_law_598 rfl rfl (Nat.le_of_ble_eq_true rfl) ?_
                    refine go_iload (pc' := 601) dL_law_599 rfl rfl ?_
                    refine go_iconst (pc' := 602) dL_law_601 rfl (r32_c rfl) ?_
                    obtain ⟨g162, h⟩ := gd h
                    refine go_iadd (pc' := 603) dL_law_602 rfl g162 ?_
                    obtain ⟨g163, h⟩ := gd h
                    refine go_sald (pc' := 604) dL_law_603 rfl rfl g163 ?_
                    refine go_aload_n (pc' := 605) dL_law_604 rfl rfl (Nat.le_of_ble_eq_true rfl) ?_
                    refine go_iload (pc' := 607) dL_law_605 rfl rfl ?_
                    refine go_iconst (pc' := 608) dL_law_607 rfl (r32_c rfl) ?_
                    obtain ⟨g164, h⟩ := gd h
                    refine go_iadd (pc' := 609) dL_law_608 rfl g164 ?_
                    obtain ⟨g165, h⟩ := gd h
                    refine go_sald (pc' := 610) dL_law_609 rfl rfl g165 ?_
                    refine go_aload_n (pc' := 611) dL_law_610 rfl rfl (Nat.le_of_ble_eq_true rfl) ?_
                    obtain ⟨v166, k167, h⟩ := bd h
                    have k167 := l_L_calculate (d + 280) n4 e3 σ2 ((q.2 (Int.toNat (y1 + 1))).toInt) ((q.2 (Int.toNat (y1 + 2))).toInt) _ k167
                    refine go_call (kc := 59) (Mc := mt59) (v := some (pvI v166.1)) (w' := (true, v166.2.1, v166.2.2.1, v166.2.2.2)) (pc' := 614) (st' := [pvI v166.1]) [pvR 10 0 0, pvI ((q.2 (Int.toNat (y1 + 1))).toInt), pvI ((q.2 (Int.toNat (y1 + 2))).toInt), pvR 13 1 170] [] (Or.inr (Or.inl rfl)) dL_law_611 rfl rm_12_116 mtE59 rfl rfl rfl (Nat.le_of_ble_eq_true rfl) (Or.inl (by decide)) k167 rfl ?_
                    refine go_istore (L' := [some (pvS), some (pvR 10 0 0), some (pvR 11 0 129), some (pvR 13 1 170), some (pvI y1), some (pvI v166.1), none, none]) (pc' := 616) dL_law_614 rfl (Nat.le_of_ble_eq_true rfl) rfl ?_
                    refine go_aload_n (pc' := 617) dL_law_616 rfl rfl (Nat.le_of_ble_eq_true rfl) ?_
                    refine go_aload_n (pc' := 618) dL_law_617 rfl rfl (Nat.le_of_ble_eq_true rfl) ?_
                    refine go_iload (pc' := 620) dL_law_618 rfl rfl ?_
                    refine go_iconst (pc' := 621) dL_law_620 rfl (r32_c rfl) ?_
                    obtain ⟨g168, h⟩ := gd h
                    refine go_iadd (pc' := 622) dL_law_621 rfl g168 ?_
                    obtain ⟨g169, h⟩ := gd h
                    refine go_sald (pc' := 623) dL_law_622 rfl rfl g169 ?_
                    refine go_aload_n (pc' := 624) dL_law_623 rfl rfl (Nat.le_of_ble_eq_true rfl) ?_
                    refine go_iload (pc' := 626) dL_law_624 rfl rfl ?_
                    refine go_iconst (pc' := 627) dL_law_626 rfl (r32_c rfl) ?_
                    obtain ⟨g170, h⟩ := gd h
                    refine go_iadd (pc' := 628) dL_law_627 rfl g170 ?_
                    obtain ⟨g171, h⟩ := gd h
                    refine go_sald (pc' := 629) dL_law_628 rfl rfl g171 ?_
                    obtain ⟨v172, k173, h⟩ := bd h
                    have k173 := l_M_calculate (d + 281) v166.2.1 v166.2.2.1 v166.2.2.2 ((q.2 (Int.toNat (y1 + 1))).toInt) ((q.2 (Int.toNat (y1 + 2))).toInt) _ k173
                    refine go_call (kc := 189) (Mc := mt189) (v := some (pvI v172.1)) (w' := (true, v166.2.1, v166.2.2.1, v172.2)) (pc' := 632) (st' := [pvI v172.1]) [pvR 11 0 129, pvI ((q.2 (Int.toNat (y1 + 1))).toInt), pvI ((q.2 (Int.toNat (y1 + 2))).toInt)] [] (Or.inl rfl) dL_law_629 rfl rm_12_118 mtE189 rfl rfl rfl (Nat.le_of_ble_eq_true rfl) (Or.inr ⟨_, _, 129, rfl, Or.inl rfl⟩) k173 rfl ?_
                    refine go_istore (L' := [some (pvS), some (pvR 10 0 0), some (pvR 11 0 129), some (pvR 13 1 170), some (pvI y1), some (pvI v166.1), some (pvI v172.1), none]) (pc' := 634) dL_law_632 rfl (Nat.le_of_ble_eq_true rfl) rfl ?_
                    refine go_aload_n (pc' := 635) dL_law_634 rfl rfl (Nat.le_of_ble_eq_true rfl) ?_
                    obtain ⟨v174, k175, h⟩ := bd h
                    have k175 := l_M_thrown (d + 283) v166.2.1 v166.2.2.1 v172.2 _ k175
                    refine go_call (kc := 168) (Mc := mt168) (v := some (pvI v174)) (w' := (true, v166.2.1, v166.2.2.1, v172.2)) (pc' := 638) (st' := [pvI v174]) [pvR 11 0 129] [] (Or.inl rfl) dL_law_635 rfl rm_12_93 mtE168 rfl rfl rfl (Nat.le_of_ble_eq_true rfl) (Or.inr ⟨_, _, 129, rfl, Or.inl rfl⟩) k175 rfl ?_
                    refine go_iload (pc' := 640) dL_law_638 rfl rfl ?_
                    refine go_icmp_eq (t := 645) (pc' := 643) dL_law_640 rfl rfl (fun c183 => ?_) (fun c183 => ?_)
                    · rw [if_pos (show v174 = v166.1 from c183)] at h
                      refine go_iload (pc' := 647) dL_law_645 rfl rfl ?_
                      refine go_if_ne (t := 662) (pc' := 650) dL_law_647 rfl rfl (fun c181 => ?_) (fun c181 => ?_)
                      · rw [if_pos (show v166.1 ≠ 0 from c181)] at h
                        refine go_goto (t := 1920) dL_law_662 rfl ?_
                        obtain ⟨g176, h⟩ := gd h
                        refine go_iinc (L' := [some (pvS), some (pvR 10 0 0), some (pvR 11 0 129), some (pvR 13 1 170), some (pvI (y1 + 7)), some (pvI v166.1), some (pvI v172.1), none]) (pc' := 1923) dL_law_1920 rfl rfl g176 rfl ?_
                        refine go_goto (t := 23) dL_law_1923 rfl ?_
                        exact go_sub (ih (y1 + 7) v172.2 v166.2.1 v166.2.2.1 _ h) ⟨Or.inr rfl, Or.inr rfl, Or.inr rfl, Or.inr rfl, Or.inr rfl, Or.inl rfl, Or.inl rfl, Or.inr rfl, trivial⟩
                      · rw [if_neg (show ¬ (v166.1 ≠ 0) from c181)] at h
                        refine go_aload_n (pc' := 651) dL_law_650 rfl rfl (Nat.le_of_ble_eq_true rfl) ?_
                        refine go_iconst (pc' := 652) dL_law_651 rfl (r32_c rfl) ?_
                        obtain ⟨g177, h⟩ := gd h
                        refine go_lald (pc' := 653) dL_law_652 rfl g177 ?_
                        refine go_iload (pc' := 655) dL_law_653 rfl rfl ?_
                        refine go_i2l (pc' := 656) dL_law_655 rfl ?_
                        refine go_lcmp (pc' := 657) dL_law_656 rfl ?_
                        refine go_if_eq (t := 662) (pc' := 660) dL_law_657 rfl rfl (fun c180 => ?_) (fun c180 => ?_)
                        · rw [if_pos (show (lcm (v172.2 170 0) v172.1) = 0 from c180)] at h
                          refine go_goto (t := 1920) dL_law_662 rfl ?_
                          obtain ⟨g178, h⟩ := gd h
                          refine go_iinc (L' := [some (pvS), some (pvR 10 0 0), some (pvR 11 0 129), some (pvR 13 1 170), some (pvI (y1 + 7)), some (pvI v166.1), some (pvI v172.1), none]) (pc' := 1923) dL_law_1920 rfl rfl g178 rfl ?_
                          refine go_goto (t := 23) dL_law_1923 rfl ?_
                          exact go_sub (ih (y1 + 7) v172.2 v166.2.1 v166.2.2.1 _ h) ⟨Or.inr rfl, Or.inr rfl, Or.inr rfl, Or.inr rfl, Or.inr rfl, Or.inl rfl, Or.inl rfl, Or.inr rfl, trivial⟩
                        · rw [if_neg (show ¬ ((lcm (v172.2 170 0) v172.1) = 0) from c180)] at h
                          refine go_iconst (pc' := 661) dL_law_660 rfl (r32_c rfl) ?_
                          obtain ⟨g179, h⟩ := gd h
                          cases h
                          exact go_zret dL_law_661 rfl g179 rfl
                    · rw [if_neg (show ¬ (v174 = v166.1) from c183)] at h
                      refine go_iconst (pc' := 644) dL_law_643 rfl (r32_c rfl) ?_
                      obtain ⟨g182, h⟩ := gd h
                      cases h
                      exact go_zret dL_law_644 rfl g182 rfl
                  · rw [if_neg c184] at h
                    by_cases c220 : (iand ((q.2 (Int.toNat y1)).toInt) 31) = 7
                    · rw [if_pos c220] at h
                      refine go_table (t := 665) dL_law_40 (Or.inr ⟨by omega, by omega, by rw [c220]; rfl⟩) rfl ?_
                      refine go_aload_n (pc' := 666) dL_law_665 rfl rfl (Nat.le_of_ble_eq_true rfl) ?_
                      refine go_aload_n (pc' := 667) dL_law_666 rfl rfl (Nat.le_of_ble_eq_true rfl) ?_
                      refine go_iload (pc' := 669) dL_law_667 rfl rfl ?_
                      refine go_iconst (pc' := 670) dL_law_669 rfl (r32_c rfl) ?_
                      obtain ⟨g185, h⟩ := gd h
                      refine go_iadd (pc' := 671) dL_law_670 rfl g185 ?_
                      obtain ⟨g186, h⟩ := gd h
                      refine go_sald (pc' := 672) dL_law_671 rfl rfl g186 ?_
                      refine go_aload_n (pc' := 673) dL_law_672 rfl rfl (Nat.le_of_ble_eq_true rfl) ?_
                      refine go_iload (pc' := 675) dL_law_673 rfl rfl ?_
                      refine go_iconst (pc' := 676) dL_law_675 rfl (r32_c rfl) ?_
                      obtain ⟨g187, h⟩ := gd h
                      refine go_iadd (pc' := 677) dL_law_676 rfl g187 ?_
                      obtain ⟨g188, h⟩ := gd h
                      refine go_sald (pc' := 678) dL_law_677 rfl rfl g188 ?_
                      refine go_aload_n (pc' := 679) dL_law_678 rfl rfl (Nat.le_of_ble_eq_true rfl) ?_
                      refine go_iload (pc' := 681) dL_law_679 rfl rfl ?_
                      refine go_iconst (pc' := 682) dL_law_681 rfl (r32_c rfl) ?_
                      obtain ⟨g189, h⟩ := gd h
                      refine go_iadd (pc' := 683) dL_law_682 rfl g189 ?_
                      obtain ⟨g190, h⟩ := gd h
                      refine go_sald (pc' := 684) dL_law_683 rfl rfl g190 ?_
                      obtain ⟨j191, k192, h⟩ := bd h
                      have k192J : Go (some q) (Ev (d + 284)) mt238 692 [some (pvS), some (pvR 10 0 0), some (pvR 11 0 129), some (pvR 13 1 170), some (pvI y1), none, none, none] [pvI j191, pvI ((q.2 (Int.toNat (y1 + 2))).toInt), pvI ((q.2 (Int.toNat (y1 + 1))).toInt), pvR 10 0 0] (true, n4, e3, σ2) (0, some (pvI r.1), true, r.2.1, r.2.2.1, r.2.2.2) := by
                        refine go_aload_n (pc' := 693) dL_law_692 rfl rfl (Nat.le_of_ble_eq_true rfl) ?_
                        obtain ⟨v193, k194, h⟩ := bd h
                        have k194 := l_L_hide (d + 278) n4 e3 σ2 ((q.2 (Int.toNat (y1 + 1))).toInt) ((q.2 (Int.toNat (y1 + 2))).toInt) j191 _ k194
                        refine go_call (kc := 63) (Mc := mt63) (v := some (pvI v193.1)) (w' := (true, n4, v193.2.1, v193.2.2)) (pc' := 696) (st' := [pvI v193.1]) [pvR 10 0 0, pvI ((q.2 (Int.toNat (y1 + 1))).toInt), pvI ((q.2 (Int.toNat (y1 + 2))).toInt), pvI j191, pvR 13 1 170] [] (Or.inr (Or.inl rfl)) dL_law_693 rfl rm_12_119 mtE63 rfl rfl rfl (Nat.le_of_ble_eq_true rfl) (Or.inl (by decide)) k194 rfl ?_
                        refine go_istore (L' := [some (pvS), some (pvR 10 0 0), some (pvR 11 0 129), some (pvR 13 1 170), some (pvI y1), some (pvI v193.1), none, none]) (pc' := 698) dL_law_696 rfl (Nat.le_of_ble_eq_true rfl) rfl ?_
                        refine go_aload_n (pc' := 699) dL_law_698 rfl rfl (Nat.le_of_ble_eq_true rfl) ?_
                        refine go_aload_n (pc' := 700) dL_law_699 rfl rfl (Nat.le_of_ble_eq_true rfl) ?_
                        refine go_iload (pc' := 702) dL_law_700 rfl rfl ?_
                        refine go_iconst (pc' := 703) dL_law_702 rfl (r32_c rfl) ?_
                        obtain ⟨g195, h⟩ := gd h
                        refine go_iadd (pc' := 704) dL_law_703 rfl g195 ?_
                        obtain ⟨g196, h⟩ := gd h
                        refine go_sald (pc' := 705) dL_law_704 rfl rfl g196 ?_
                        refine go_aload_n (pc' := 706) dL_law_705 rfl rfl (Nat.le_of_ble_eq_true rfl) ?_
                        refine go_iload (pc' := 708) dL_law_706 rfl rfl ?_
                        refine go_iconst (pc' := 709) dL_law_708 rfl (r32_c rfl) ?_
                        obtain ⟨g197, h⟩ := gd h
                        refine go_iadd (pc' := 710) dL_law_709 rfl g197 ?_
                        obtain ⟨g198, h⟩ := gd h
                        refine go_sald (pc' := 711) dL_law_710 rfl rfl g198 ?_
                        refine go_aload_n (pc' := 712) dL_law_711 rfl rfl (Nat.le_of_ble_eq_true rfl) ?_
                        refine go_iload (pc' := 714) dL_law_712 rfl rfl ?_
                        refine go_iconst (pc' := 715) dL_law_714 rfl (r32_c rfl) ?_
                        obtain ⟨g199, h⟩ := gd h
                        refine go_iadd (pc' := 716) dL_law_715 rfl g199 ?_
                        obtain ⟨g200, h⟩ := gd h
                        refine go_sald (pc' := 717) dL_law_716 rfl rfl g200 ?_
                        obtain ⟨j201, k202, h⟩ := bd h
                        have k202J : Go (some q) (Ev (d + 284)) mt238 725 [some (pvS), some (pvR 10 0 0), some (pvR 11 0 129), some (pvR 13 1 170), some (pvI y1), some (pvI v193.1), none, none] [pvI j201, pvI ((q.2 (Int.toNat (y1 + 2))).toInt), pvI ((q.2 (Int.toNat (y1 + 1))).toInt), pvR 11 0 129] (true, n4, v193.2.1, v193.2.2) (0, some (pvI r.1), true, r.2.1, r.2.2.1, r.2.2.2) := by
                          obtain ⟨v203, k204, h⟩ := bd h
                          have k204 := l_M_hide (d + 280) n4 v193.2.1 v193.2.2 ((q.2 (Int.toNat (y1 + 1))).toInt) ((q.2 (Int.toNat (y1 + 2))).toInt) j201 _ k204
                          refine go_call (kc := 190) (Mc := mt190) (v := some (pvI v203.1)) (w' := (true, n4, v193.2.1, v203.2)) (pc' := 728) (st' := [pvI v203.1]) [pvR 11 0 129, pvI ((q.2 (Int.toNat (y1 + 1))).toInt), pvI ((q.2 (Int.toNat (y1 + 2))).toInt), pvI j201] [] (Or.inl rfl) dL_law_725 rfl rm_12_122 mtE190 rfl rfl rfl (Nat.le_of_ble_eq_true rfl) (Or.inr ⟨_, _, 129, rfl, Or.inl rfl⟩) k204 rfl ?_
                          refine go_istore (L' := [some (pvS), some (pvR 10 0 0), some (pvR 11 0 129), some (pvR 13 1 170), some (pvI y1), some (pvI v193.1), some (pvI v203.1), none]) (pc' := 730) dL_law_728 rfl (Nat.le_of_ble_eq_true rfl) rfl ?_
                          refine go_aload_n (pc' := 731) dL_law_730 rfl rfl (Nat.le_of_ble_eq_true rfl) ?_
                          obtain ⟨v205, k206, h⟩ := bd h
                          have k206 := l_M_thrown (d + 283) n4 v193.2.1 v203.2 _ k206
                          refine go_call (kc := 168) (Mc := mt168) (v := some (pvI v205)) (w' := (true, n4, v193.2.1, v203.2)) (pc' := 734) (st' := [pvI v205]) [pvR 11 0 129] [] (Or.inl rfl) dL_law_731 rfl rm_12_93 mtE168 rfl rfl rfl (Nat.le_of_ble_eq_true rfl) (Or.inr ⟨_, _, 129, rfl, Or.inl rfl⟩) k206 rfl ?_
                          refine go_iload (pc' := 736) dL_law_734 rfl rfl ?_
                          refine go_icmp_eq (t := 741) (pc' := 739) dL_law_736 rfl rfl (fun c217 => ?_) (fun c217 => ?_)
                          · rw [if_pos (show v205 = v193.1 from c217)] at h
                            refine go_iload (pc' := 743) dL_law_741 rfl rfl ?_
                            refine go_if_ne (t := 765) (pc' := 746) dL_law_743 rfl rfl (fun c215 => ?_) (fun c215 => ?_)
                            · rw [if_pos (show v193.1 ≠ 0 from c215)] at h
                              refine go_goto (t := 1920) dL_law_765 rfl ?_
                              obtain ⟨g207, h⟩ := gd h
                              refine go_iinc (L' := [some (pvS), some (pvR 10 0 0), some (pvR 11 0 129), some (pvR 13 1 170), some (pvI (y1 + 7)), some (pvI v193.1), some (pvI v203.1), none]) (pc' := 1923) dL_law_1920 rfl rfl g207 rfl ?_
                              refine go_goto (t := 23) dL_law_1923 rfl ?_
                              exact go_sub (ih (y1 + 7) v203.2 n4 v193.2.1 _ h) ⟨Or.inr rfl, Or.inr rfl, Or.inr rfl, Or.inr rfl, Or.inr rfl, Or.inl rfl, Or.inl rfl, Or.inr rfl, trivial⟩
                            · rw [if_neg (show ¬ (v193.1 ≠ 0) from c215)] at h
                              refine go_aload_n (pc' := 747) dL_law_746 rfl rfl (Nat.le_of_ble_eq_true rfl) ?_
                              refine go_iconst (pc' := 748) dL_law_747 rfl (r32_c rfl) ?_
                              obtain ⟨g208, h⟩ := gd h
                              refine go_lald (pc' := 749) dL_law_748 rfl g208 ?_
                              refine go_iload (pc' := 751) dL_law_749 rfl rfl ?_
                              obtain ⟨j209, k210, h⟩ := bd h
                              have k210J : Go (some q) (Ev (d + 284)) mt238 759 [some (pvS), some (pvR 10 0 0), some (pvR 11 0 129), some (pvR 13 1 170), some (pvI y1), some (pvI v193.1), some (pvI v203.1), none] [pvL j209, pvL (v203.2 170 0)] (true, n4, v193.2.1, v203.2) (0, some (pvI r.1), true, r.2.1, r.2.2.1, r.2.2.2) := by
                                refine go_lcmp (pc' := 760) dL_law_759 rfl ?_
                                refine go_if_eq (t := 765) (pc' := 763) dL_law_760 rfl rfl (fun c213 => ?_) (fun c213 => ?_)
                                · rw [if_pos (show (lcm (v203.2 170 0) j209) = 0 from c213)] at h
                                  refine go_goto (t := 1920) dL_law_765 rfl ?_
                                  obtain ⟨g211, h⟩ := gd h
                                  refine go_iinc (L' := [some (pvS), some (pvR 10 0 0), some (pvR 11 0 129), some (pvR 13 1 170), some (pvI (y1 + 7)), some (pvI v193.1), some (pvI v203.1), none]) (pc' := 1923) dL_law_1920 rfl rfl g211 rfl ?_
                                  refine go_goto (t := 23) dL_law_1923 rfl ?_
                                  exact go_sub (ih (y1 + 7) v203.2 n4 v193.2.1 _ h) ⟨Or.inr rfl, Or.inr rfl, Or.inr rfl, Or.inr rfl, Or.inr rfl, Or.inl rfl, Or.inl rfl, Or.inr rfl, trivial⟩
                                · rw [if_neg (show ¬ ((lcm (v203.2 170 0) j209) = 0) from c213)] at h
                                  refine go_iconst (pc' := 764) dL_law_763 rfl (r32_c rfl) ?_
                                  obtain ⟨g212, h⟩ := gd h
                                  cases h
                                  exact go_zret dL_law_764 rfl g212 rfl
                              clear h
                              have h := k210
                              refine go_if_eq (t := 758) (pc' := 754) dL_law_751 rfl rfl (fun c214 => ?_) (fun c214 => ?_)
                              · rw [if_pos (show v203.1 = 0 from c214)] at h
                                refine go_lconst (z := 0) (pc' := 759) dL_law_758 rfl rfl ?_
                                cases h
                                exact k210J
                              · rw [if_neg (show ¬ (v203.1 = 0) from c214)] at h
                                refine go_lconst (z := 1) (pc' := 755) dL_law_754 rfl rfl ?_
                                refine go_goto (t := 759) dL_law_755 rfl ?_
                                cases h
                                exact k210J
                          · rw [if_neg (show ¬ (v205 = v193.1) from c217)] at h
                            refine go_iconst (pc' := 740) dL_law_739 rfl (r32_c rfl) ?_
                            obtain ⟨g216, h⟩ := gd h
                            cases h
                            exact go_zret dL_law_740 rfl g216 rfl
                        clear h
                        have h := k202
                        refine go_if_eq (t := 724) (pc' := 720) dL_law_717 rfl rfl (fun c218 => ?_) (fun c218 => ?_)
                        · rw [if_pos (show ((q.2 (Int.toNat (y1 + 3))).toInt) = 0 from c218)] at h
                          refine go_iconst (pc' := 725) dL_law_724 rfl (r32_c rfl) ?_
                          cases h
                          exact k202J
                        · rw [if_neg (show ¬ (((q.2 (Int.toNat (y1 + 3))).toInt) = 0) from c218)] at h
                          refine go_iconst (pc' := 721) dL_law_720 rfl (r32_c rfl) ?_
                          refine go_goto (t := 725) dL_law_721 rfl ?_
                          cases h
                          exact k202J
                      clear h
                      have h := k192
                      refine go_if_eq (t := 691) (pc' := 687) dL_law_684 rfl rfl (fun c219 => ?_) (fun c219 => ?_)
                      · rw [if_pos (show ((q.2 (Int.toNat (y1 + 3))).toInt) = 0 from c219)] at h
                        refine go_iconst (pc' := 692) dL_law_691 rfl (r32_c rfl) ?_
                        cases h
                        exact k192J
                      · rw [if_neg (show ¬ (((q.2 (Int.toNat (y1 + 3))).toInt) = 0) from c219)] at h
                        refine go_iconst (pc' := 688) dL_law_687 rfl (r32_c rfl) ?_
                        refine go_goto (t := 692) dL_law_688 rfl ?_
                        cases h
                        exact k192J
                    · rw [if_neg c220] at h
                      by_cases c238 : (iand ((q.2 (Int.toNat y1)).toInt) 31) = 8
                      · rw [if_pos c238] at h
                        refine go_table (t := 768) dL_law_40 (Or.inr ⟨by omega, by omega, by rw [c238]; rfl⟩) rfl ?_
                        refine go_aload_n (pc' := 769) dL_law_768 rfl rfl (Nat.le_of_ble_eq_true rfl) ?_
                        refine go_aload_n (pc' := 770) dL_law_769 rfl rfl (Nat.le_of_ble_eq_true rfl) ?_
                        refine go_iload (pc' := 772) dL_law_770 rfl rfl ?_
                        refine go_iconst (pc' := 773) dL_law_772 rfl (r32_c rfl) ?_
                        obtain ⟨g221, h⟩ := gd h
                        refine go_iadd (pc' := 774) dL_law_773 rfl g221 ?_
                        obtain ⟨g222, h⟩ := gd h
                        refine go_sald (pc' := 775) dL_law_774 rfl rfl g222 ?_
                        obtain ⟨j223, k224, h⟩ := bd h
                        have k224J : Go (some q) (Ev (d + 284)) mt238 783 [some (pvS), some (pvR 10 0 0), some (pvR 11 0 129), some (pvR 13 1 170), some (pvI y1), none, none, none] [pvI j223, pvR 10 0 0] (true, n4, e3, σ2) (0, some (pvI r.1), true, r.2.1, r.2.2.1, r.2.2.2) := by
                          obtain ⟨v225, k226, h⟩ := bd h
                          have k226 := l_C_totals (d + 282) n4 e3 σ2 j223 _ k226
                          refine go_call (kc := 14) (Mc := mt14) (v := some (pvI v225.1)) (w' := (true, n4, e3, v225.2)) (pc' := 786) (st' := [pvI v225.1]) [pvR 10 0 0, pvI j223] [] (Or.inl rfl) dL_law_783 rfl rm_12_123 mtE14 rfl rfl rfl (Nat.le_of_ble_eq_true rfl) (Or.inr ⟨_, _, 0, rfl, Or.inl rfl⟩) k226 rfl ?_
                          refine go_aload_n (pc' := 787) dL_law_786 rfl rfl (Nat.le_of_ble_eq_true rfl) ?_
                          refine go_aload_n (pc' := 788) dL_law_787 rfl rfl (Nat.le_of_ble_eq_true rfl) ?_
                          refine go_iload (pc' := 790) dL_law_788 rfl rfl ?_
                          refine go_iconst (pc' := 791) dL_law_790 rfl (r32_c rfl) ?_
                          obtain ⟨g227, h⟩ := gd h
                          refine go_iadd (pc' := 792) dL_law_791 rfl g227 ?_
                          obtain ⟨g228, h⟩ := gd h
                          refine go_sald (pc' := 793) dL_law_792 rfl rfl g228 ?_
                          obtain ⟨j229, k230, h⟩ := bd h
                          have k230J : Go (some q) (Ev (d + 284)) mt238 801 [some (pvS), some (pvR 10 0 0), some (pvR 11 0 129), some (pvR 13 1 170), some (pvI y1), none, none, none] [pvI j229, pvR 11 0 129, pvI v225.1] (true, n4, e3, v225.2) (0, some (pvI r.1), true, r.2.1, r.2.2.1, r.2.2.2) := by
                            obtain ⟨v231, k232, h⟩ := bd h
                            have k232 := l_M_totals (d + 282) n4 e3 v225.2 j229 _ k232
                            refine go_call (kc := 191) (Mc := mt191) (v := some (pvI v231.1)) (w' := (true, n4, e3, v231.2)) (pc' := 804) (st' := [pvI v231.1, pvI v225.1]) [pvR 11 0 129, pvI j229] [pvI v225.1] (Or.inl rfl) dL_law_801 rfl rm_12_126 mtE191 rfl rfl rfl (Nat.le_of_ble_eq_true rfl) (Or.inr ⟨_, _, 129, rfl, Or.inl rfl⟩) k232 rfl ?_
                            refine go_icmp_eq (t := 1920) (pc' := 807) dL_law_804 rfl rfl (fun c235 => ?_) (fun c235 => ?_)
                            · rw [if_pos (show v225.1 = v231.1 from c235)] at h
                              obtain ⟨g233, h⟩ := gd h
                              refine go_iinc (L' := [some (pvS), some (pvR 10 0 0), some (pvR 11 0 129), some (pvR 13 1 170), some (pvI (y1 + 7)), none, none, none]) (pc' := 1923) dL_law_1920 rfl rfl g233 rfl ?_
                              refine go_goto (t := 23) dL_law_1923 rfl ?_
                              exact ih (y1 + 7) v231.2 n4 e3 _ h
                            · rw [if_neg (show ¬ (v225.1 = v231.1) from c235)] at h
                              refine go_iconst (pc' := 808) dL_law_807 rfl (r32_c rfl) ?_
                              obtain ⟨g234, h⟩ := gd h
                              cases h
                              exact go_zret dL_law_808 rfl g234 rfl
                          clear h
                          have h := k230
                          refine go_if_eq (t := 800) (pc' := 796) dL_law_793 rfl rfl (fun c236 => ?_) (fun c236 => ?_)
                          · rw [if_pos (show ((q.2 (Int.toNat (y1 + 1))).toInt) = 0 from c236)] at h
                            refine go_iconst (pc' := 801) dL_law_800 rfl (r32_c rfl) ?_
                            cases h
                            exact k230J
                          · rw [if_neg (show ¬ (((q.2 (Int.toNat (y1 + 1))).toInt) = 0) from c236)] at h
                            refine go_iconst (pc' := 797) dL_law_796 rfl (r32_c rfl) ?_
                            refine go_goto (t := 801) dL_law_797 rfl ?_
                            cases h
                            exact k230J
                        clear h
                        have h := k224
                        refine go_if_eq (t := 782) (pc' := 778) dL_law_775 rfl rfl (fun c237 => ?_) (fun c237 => ?_)
                        · rw [if_pos (show ((q.2 (Int.toNat (y1 + 1))).toInt) = 0 from c237)] at h
                          refine go_iconst (pc' := 783) dL_law_782 rfl (r32_c rfl) ?_
                          cases h
                          exact k224J
                        · rw [if_neg (show ¬ (((q.2 (Int.toNat (y1 + 1))).toInt) = 0) from c237)] at h
                          refine go_iconst (pc' := 779) dL_law_778 rfl (r32_c rfl) ?_
                          refine go_goto (t := 783) dL_law_779 rfl ?_
                          cases h
                          exact k224J
                      · rw [if_neg c238] at h
                        by_cases c265 : (iand ((q.2 (Int.toNat y1)).toInt) 31) = 9
                        · rw [if_pos c265] at h
                          refine go_table (t := 809) dL_law_40 (Or.inr ⟨by omega, by omega, by rw [c265]; rfl⟩) rfl ?_
                          refine go_aload_n (pc' := 810) dL_law_809 rfl rfl (Nat.le_of_ble_eq_true rfl) ?_
                          refine go_aload_n (pc' := 811) dL_law_810 rfl rfl (Nat.le_of_ble_eq_true rfl) ?_
                          refine go_iload (pc' := 813) dL_law_811 rfl rfl ?_
                          refine go_iconst (pc' := 814) dL_law_813 rfl (r32_c rfl) ?_
                          obtain ⟨g239, h⟩ := gd h
                          refine go_iadd (pc' := 815) dL_law_814 rfl g239 ?_
                          obtain ⟨g240, h⟩ := gd h
                          refine go_sald (pc' := 816) dL_law_815 rfl rfl g240 ?_
                          refine go_aload_n (pc' := 817) dL_law_816 rfl rfl (Nat.le_of_ble_eq_true rfl) ?_
                          refine go_iload (pc' := 819) dL_law_817 rfl rfl ?_
                          refine go_iconst (pc' := 820) dL_law_819 rfl (r32_c rfl) ?_
                          obtain ⟨g241, h⟩ := gd h
                          refine go_iadd (pc' := 821) dL_law_820 rfl g241 ?_
                          obtain ⟨g242, h⟩ := gd h
                          refine go_sald (pc' := 822) dL_law_821 rfl rfl g242 ?_
                          refine go_aload_n (pc' := 823) dL_law_822 rfl rfl (Nat.le_of_ble_eq_true rfl) ?_
                          refine go_iload (pc' := 825) dL_law_823 rfl rfl ?_
                          refine go_iconst (pc' := 826) dL_law_825 rfl (r32_c rfl) ?_
                          obtain ⟨g243, h⟩ := gd h
                          refine go_iadd (pc' := 827) dL_law_826 rfl g243 ?_
                          obtain ⟨g244, h⟩ := gd h
                          refine go_sald (pc' := 828) dL_law_827 rfl rfl g244 ?_
                          refine go_aload_n (pc' := 829) dL_law_828 rfl rfl (Nat.le_of_ble_eq_true rfl) ?_
                          obtain ⟨v245, k246, h⟩ := bd h
                          have k246 := l_L_measure (d + 280) n4 e3 σ2 ((q.2 (Int.toNat (y1 + 1))).toInt) ((q.2 (Int.toNat (y1 + 2))).toInt) ((q.2 (Int.toNat (y1 + 3))).toInt) _ k246
                          refine go_call (kc := 66) (Mc := mt66) (v := some (pvI v245.1)) (w' := (true, n4, v245.2.1, v245.2.2)) (pc' := 832) (st' := [pvI v245.1]) [pvR 10 0 0, pvI ((q.2 (Int.toNat (y1 + 1))).toInt), pvI ((q.2 (Int.toNat (y1 + 2))).toInt), pvI ((q.2 (Int.toNat (y1 + 3))).toInt), pvR 13 1 170] [] (Or.inr (Or.inl rfl)) dL_law_829 rfl rm_12_127 mtE66 rfl rfl rfl (Nat.le_of_ble_eq_true rfl) (Or.inl (by decide)) k246 rfl ?_
                          refine go_istore (L' := [some (pvS), some (pvR 10 0 0), some (pvR 11 0 129), some (pvR 13 1 170), some (pvI y1), some (pvI v245.1), none, none]) (pc' := 834) dL_law_832 rfl (Nat.le_of_ble_eq_true rfl) rfl ?_
                          refine go_aload_n (pc' := 835) dL_law_834 rfl rfl (Nat.le_of_ble_eq_true rfl) ?_
                          refine go_aload_n (pc' := 836) dL_law_835 rfl rfl (Nat.le_of_ble_eq_true rfl) ?_
                          refine go_iload (pc' := 838) dL_law_836 rfl rfl ?_
                          refine go_iconst (pc' := 839) dL_law_838 rfl (r32_c rfl) ?_
                          obtain ⟨g247, h⟩ := gd h
                          refine go_iadd (pc' := 840) dL_law_839 rfl g247 ?_
                          obtain ⟨g248, h⟩ := gd h
                          refine go_sald (pc' := 841) dL_law_840 rfl rfl g248 ?_
                          refine go_aload_n (pc' := 842) dL_law_841 rfl rfl (Nat.le_of_ble_eq_true rfl) ?_
                          refine go_iload (pc' := 844) dL_law_842 rfl rfl ?_
                          refine go_iconst (pc' := 845) dL_law_844 rfl (r32_c rfl) ?_
                          obtain ⟨g249, h⟩ := gd h
                          refine go_iadd (pc' := 846) dL_law_845 rfl g249 ?_
                          obtain ⟨g250, h⟩ := gd h
                          refine go_sald (pc' := 847) dL_law_846 rfl rfl g250 ?_
                          refine go_aload_n (pc' := 848) dL_law_847 rfl rfl (Nat.le_of_ble_eq_true rfl) ?_
                          refine go_iload (pc' := 850) dL_law_848 rfl rfl ?_
                          refine go_iconst (pc' := 851) dL_law_850 rfl (r32_c rfl) ?_
                          obtain ⟨g251, h⟩ := gd h
                          refine go_iadd (pc' := 852) dL_law_851 rfl g251 ?_
                          obtain ⟨g252, h⟩ := gd h
                          refine go_sald (pc' := 853) dL_law_852 rfl rfl g252 ?_
                          obtain ⟨v253, k254, h⟩ := bd h
                          have k254 := l_M_measure (d + 281) n4 v245.2.1 v245.2.2 ((q.2 (Int.toNat (y1 + 1))).toInt) ((q.2 (Int.toNat (y1 + 2))).toInt) ((q.2 (Int.toNat (y1 + 3))).toInt) _ k254
                          refine go_call (kc := 192) (Mc := mt192) (v := some (pvI v253.1)) (w' := (true, n4, v245.2.1, v253.2)) (pc' := 856) (st' := [pvI v253.1]) [pvR 11 0 129, pvI ((q.2 (Int.toNat (y1 + 1))).toInt), pvI ((q.2 (Int.toNat (y1 + 2))).toInt), pvI ((q.2 (Int.toNat (y1 + 3))).toInt)] [] (Or.inl rfl) dL_law_853 rfl rm_12_129 mtE192 rfl rfl rfl (Nat.le_of_ble_eq_true rfl) (Or.inr ⟨_, _, 129, rfl, Or.inl rfl⟩) k254 rfl ?_
                          refine go_istore (L' := [some (pvS), some (pvR 10 0 0), some (pvR 11 0 129), some (pvR 13 1 170), some (pvI y1), some (pvI v245.1), some (pvI v253.1), none]) (pc' := 858) dL_law_856 rfl (Nat.le_of_ble_eq_true rfl) rfl ?_
                          refine go_aload_n (pc' := 859) dL_law_858 rfl rfl (Nat.le_of_ble_eq_true rfl) ?_
                          obtain ⟨v255, k256, h⟩ := bd h
                          have k256 := l_M_thrown (d + 283) n4 v245.2.1 v253.2 _ k256
                          refine go_call (kc := 168) (Mc := mt168) (v := some (pvI v255)) (w' := (true, n4, v245.2.1, v253.2)) (pc' := 862) (st' := [pvI v255]) [pvR 11 0 129] [] (Or.inl rfl) dL_law_859 rfl rm_12_93 mtE168 rfl rfl rfl (Nat.le_of_ble_eq_true rfl) (Or.inr ⟨_, _, 129, rfl, Or.inl rfl⟩) k256 rfl ?_
                          refine go_iload (pc' := 864) dL_law_862 rfl rfl ?_
                          refine go_icmp_eq (t := 869) (pc' := 867) dL_law_864 rfl rfl (fun c264 => ?_) (fun c264 => ?_)
                          · rw [if_pos (show v255 = v245.1 from c264)] at h
                            refine go_iload (pc' := 871) dL_law_869 rfl rfl ?_
                            refine go_if_ne (t := 886) (pc' := 874) dL_law_871 rfl rfl (fun c262 => ?_) (fun c262 => ?_)
                            · rw [if_pos (show v245.1 ≠ 0 from c262)] at h
                              refine go_goto (t := 1920) dL_law_886 rfl ?_
                              obtain ⟨g257, h⟩ := gd h
                              refine go_iinc (L' := [some (pvS), some (pvR 10 0 0), some (pvR 11 0 129), some (pvR 13 1 170), some (pvI (y1 + 7)), some (pvI v245.1), some (pvI v253.1), none]) (pc' := 1923) dL_law_1920 rfl rfl g257 rfl ?_
                              refine go_goto (t := 23) dL_law_1923 rfl ?_
                              exact go_sub (ih (y1 + 7) v253.2 n4 v245.2.1 _ h) ⟨Or.inr rfl, Or.inr rfl, Or.inr rfl, Or.inr rfl, Or.inr rfl, Or.inl rfl, Or.inl rfl, Or.inr rfl, trivial⟩
                            · rw [if_neg (show ¬ (v245.1 ≠ 0) from c262)] at h
                              refine go_aload_n (pc' := 875) dL_law_874 rfl rfl (Nat.le_of_ble_eq_true rfl) ?_
                              refine go_iconst (pc' := 876) dL_law_875 rfl (r32_c rfl) ?_
                              obtain ⟨g258, h⟩ := gd h
                              refine go_lald (pc' := 877) dL_law_876 rfl g258 ?_
                              refine go_iload (pc' := 879) dL_law_877 rfl rfl ?_
                              refine go_i2l (pc' := 880) dL_law_879 rfl ?_
                              refine go_lcmp (pc' := 881) dL_law_880 rfl ?_
                              refine go_if_eq (t := 886) (pc' := 884) dL_law_881 rfl rfl (fun c261 => ?_) (fun c261 => ?_)
                              · rw [if_pos (show (lcm (v253.2 170 0) v253.1) = 0 from c261)] at h
                                refine go_goto (t := 1920) dL_law_886 rfl ?_
                                obtain ⟨g259, h⟩ := gd h
                                refine go_iinc (L' := [some (pvS), some (pvR 10 0 0), some (pvR 11 0 129), some (pvR 13 1 170), some (pvI (y1 + 7)), some (pvI v245.1), some (pvI v253.1), none]) (pc' := 1923) dL_law_1920 rfl rfl g259 rfl ?_
                                refine go_goto (t := 23) dL_law_1923 rfl ?_
                                exact go_sub (ih (y1 + 7) v253.2 n4 v245.2.1 _ h) ⟨Or.inr rfl, Or.inr rfl, Or.inr rfl, Or.inr rfl, Or.inr rfl, Or.inl rfl, Or.inl rfl, Or.inr rfl, trivial⟩
                              · rw [if_neg (show ¬ ((lcm (v253.2 170 0) v253.1) = 0) from c261)] at h
                                refine go_iconst (pc' := 885) dL_law_884 rfl (r32_c rfl) ?_
                                obtain ⟨g260, h⟩ := gd h
                                cases h
                                exact go_zret dL_law_885 rfl g260 rfl
                          · rw [if_neg (show ¬ (v255 = v245.1) from c264)] at h
                            refine go_iconst (pc' := 868) dL_law_867 rfl (r32_c rfl) ?_
                            obtain ⟨g263, h⟩ := gd h
                            cases h
                            exact go_zret dL_law_868 rfl g263 rfl
                        · rw [if_neg c265] at h
                          by_cases c292 : (iand ((q.2 (Int.toNat y1)).toInt) 31) = 10
                          · rw [if_pos c292] at h
                            refine go_table (t := 889) dL_law_40 (Or.inr ⟨by omega, by omega, by rw [c292]; rfl⟩) rfl ?_
                            refine go_aload_n (pc' := 890) dL_law_889 rfl rfl (Nat.le_of_ble_eq_true rfl) ?_
                            refine go_aload_n (pc' := 891) dL_law_890 rfl rfl (Nat.le_of_ble_eq_true rfl) ?_
                            refine go_iload (pc' := 893) dL_law_891 rfl rfl ?_
                            refine go_iconst (pc' := 894) dL_law_893 rfl (r32_c rfl) ?_
                            obtain ⟨g266, h⟩ := gd h
                            refine go_iadd (pc' := 895) dL_law_894 rfl g266 ?_
                            obtain ⟨g267, h⟩ := gd h
                            refine go_sald (pc' := 896) dL_law_895 rfl rfl g267 ?_
                            refine go_aload_n (pc' := 897) dL_law_896 rfl rfl (Nat.le_of_ble_eq_true rfl) ?_
                            refine go_iload (pc' := 899) dL_law_897 rfl rfl ?_
                            refine go_iconst (pc' := 900) dL_law_899 rfl (r32_c rfl) ?_
                            obtain ⟨g268, h⟩ := gd h
                            refine go_iadd (pc' := 901) dL_law_900 rfl g268 ?_
                            obtain ⟨g269, h⟩ := gd h
                            refine go_sald (pc' := 902) dL_law_901 rfl rfl g269 ?_
                            refine go_aload_n (pc' := 903) dL_law_902 rfl rfl (Nat.le_of_ble_eq_true rfl) ?_
                            refine go_iload (pc' := 905) dL_law_903 rfl rfl ?_
                            refine go_iconst (pc' := 906) dL_law_905 rfl (r32_c rfl) ?_
                            obtain ⟨g270, h⟩ := gd h
                            refine go_iadd (pc' := 907) dL_law_906 rfl g270 ?_
                            obtain ⟨g271, h⟩ := gd h
                            refine go_sald (pc' := 908) dL_law_907 rfl rfl g271 ?_
                            refine go_aload_n (pc' := 909) dL_law_908 rfl rfl (Nat.le_of_ble_eq_true rfl) ?_
                            obtain ⟨v272, k273, h⟩ := bd h
                            have k273 := l_L_from (d + 279) n4 e3 σ2 ((q.2 (Int.toNat (y1 + 1))).toInt) ((q.2 (Int.toNat (y1 + 2))).toInt) ((q.2 (Int.toNat (y1 + 3))).toInt) _ k273
                            refine go_call (kc := 71) (Mc := mt71) (v := some (pvI v272.1)) (w' := (true, n4, v272.2.1, v272.2.2)) (pc' := 912) (st' := [pvI v272.1]) [pvR 10 0 0, pvI ((q.2 (Int.toNat (y1 + 1))).toInt), pvI ((q.2 (Int.toNat (y1 + 2))).toInt), pvI ((q.2 (Int.toNat (y1 + 3))).toInt), pvR 13 1 170] [] (Or.inr (Or.inl rfl)) dL_law_909 rfl rm_12_130 mtE71 rfl rfl rfl (Nat.le_of_ble_eq_true rfl) (Or.inl (by decide)) k273 rfl ?_
                            refine go_istore (L' := [some (pvS), some (pvR 10 0 0), some (pvR 11 0 129), some (pvR 13 1 170), some (pvI y1), some (pvI v272.1), none, none]) (pc' := 914) dL_law_912 rfl (Nat.le_of_ble_eq_true rfl) rfl ?_
                            refine go_aload_n (pc' := 915) dL_law_914 rfl rfl (Nat.le_of_ble_eq_true rfl) ?_
                            refine go_aload_n (pc' := 916) dL_law_915 rfl rfl (Nat.le_of_ble_eq_true rfl) ?_
                            refine go_iload (pc' := 918) dL_law_916 rfl rfl ?_
                            refine go_iconst (pc' := 919) dL_law_918 rfl (r32_c rfl) ?_
                            obtain ⟨g274, h⟩ := gd h
                            refine go_iadd (pc' := 920) dL_law_919 rfl g274 ?_
                            obtain ⟨g275, h⟩ := gd h
                            refine go_sald (pc' := 921) dL_law_920 rfl rfl g275 ?_
                            refine go_aload_n (pc' := 922) dL_law_921 rfl rfl (Nat.le_of_ble_eq_true rfl) ?_
                            refine go_iload (pc' := 924) dL_law_922 rfl rfl ?_
                            refine go_iconst (pc' := 925) dL_law_924 rfl (r32_c rfl) ?_
                            obtain ⟨g276, h⟩ := gd h
                            refine go_iadd (pc' := 926) dL_law_925 rfl g276 ?_
                            obtain ⟨g277, h⟩ := gd h
                            refine go_sald (pc' := 927) dL_law_926 rfl rfl g277 ?_
                            refine go_aload_n (pc' := 928) dL_law_927 rfl rfl (Nat.le_of_ble_eq_true rfl) ?_
                            refine go_iload (pc' := 930) dL_law_928 rfl rfl ?_
                            refine go_iconst (pc' := 931) dL_law_930 rfl (r32_c rfl) ?_
                            obtain ⟨g278, h⟩ := gd h
                            refine go_iadd (pc' := 932) dL_law_931 rfl g278 ?_
                            obtain ⟨g279, h⟩ := gd h
                            refine go_sald (pc' := 933) dL_law_932 rfl rfl g279 ?_
                            obtain ⟨v280, k281, h⟩ := bd h
                            have k281 := l_M_from (d + 281) n4 v272.2.1 v272.2.2 ((q.2 (Int.toNat (y1 + 1))).toInt) ((q.2 (Int.toNat (y1 + 2))).toInt) ((q.2 (Int.toNat (y1 + 3))).toInt) _ k281
                            refine go_call (kc := 194) (Mc := mt194) (v := some (pvI v280.1)) (w' := (true, n4, v272.2.1, v280.2)) (pc' := 936) (st' := [pvI v280.1]) [pvR 11 0 129, pvI ((q.2 (Int.toNat (y1 + 1))).toInt), pvI ((q.2 (Int.toNat (y1 + 2))).toInt), pvI ((q.2 (Int.toNat (y1 + 3))).toInt)] [] (Or.inl rfl) dL_law_933 rfl rm_12_132 mtE194 rfl rfl rfl (Nat.le_of_ble_eq_true rfl) (Or.inr ⟨_, _, 129, rfl, Or.inl rfl⟩) k281 rfl ?_
                            refine go_istore (L' := [some (pvS), some (pvR 10 0 0), some (pvR 11 0 129), some (pvR 13 1 170), some (pvI y1), some (pvI v272.1), some (pvI v280.1), none]) (pc' := 938) dL_law_936 rfl (Nat.le_of_ble_eq_true rfl) rfl ?_
                            refine go_aload_n (pc' := 939) dL_law_938 rfl rfl (Nat.le_of_ble_eq_true rfl) ?_
                            obtain ⟨v282, k283, h⟩ := bd h
                            have k283 := l_M_thrown (d + 283) n4 v272.2.1 v280.2 _ k283
                            refine go_call (kc := 168) (Mc := mt168) (v := some (pvI v282)) (w' := (true, n4, v272.2.1, v280.2)) (pc' := 942) (st' := [pvI v282]) [pvR 11 0 129] [] (Or.inl rfl) dL_law_939 rfl rm_12_93 mtE168 rfl rfl rfl (Nat.le_of_ble_eq_true rfl) (Or.inr ⟨_, _, 129, rfl, Or.inl rfl⟩) k283 rfl ?_
                            refine go_iload (pc' := 944) dL_law_942 rfl rfl ?_
                            refine go_icmp_eq (t := 949) (pc' := 947) dL_law_944 rfl rfl (fun c291 => ?_) (fun c291 => ?_)
                            · rw [if_pos (show v282 = v272.1 from c291)] at h
                              refine go_iload (pc' := 951) dL_law_949 rfl rfl ?_
                              refine go_if_ne (t := 966) (pc' := 954) dL_law_951 rfl rfl (fun c289 => ?_) (fun c289 => ?_)
                              · rw [if_pos (show v272.1 ≠ 0 from c289)] at h
                                refine go_goto (t := 1920) dL_law_966 rfl ?_
                                obtain ⟨g284, h⟩ := gd h
                                refine go_iinc (L' := [some (pvS), some (pvR 10 0 0), some (pvR 11 0 129), some (pvR 13 1 170), some (pvI (y1 + 7)), some (pvI v272.1), some (pvI v280.1), none]) (pc' := 1923) dL_law_1920 rfl rfl g284 rfl ?_
                                refine go_goto (t := 23) dL_law_1923 rfl ?_
                                exact go_sub (ih (y1 + 7) v280.2 n4 v272.2.1 _ h) ⟨Or.inr rfl, Or.inr rfl, Or.inr rfl, Or.inr rfl, Or.inr rfl, Or.inl rfl, Or.inl rfl, Or.inr rfl, trivial⟩
                              · rw [if_neg (show ¬ (v272.1 ≠ 0) from c289)] at h
                                refine go_aload_n (pc' := 955) dL_law_954 rfl rfl (Nat.le_of_ble_eq_true rfl) ?_
                                refine go_iconst (pc' := 956) dL_law_955 rfl (r32_c rfl) ?_
                                obtain ⟨g285, h⟩ := gd h
                                refine go_lald (pc' := 957) dL_law_956 rfl g285 ?_
                                refine go_iload (pc' := 959) dL_law_957 rfl rfl ?_
                                refine go_i2l (pc' := 960) dL_law_959 rfl ?_
                                refine go_lcmp (pc' := 961) dL_law_960 rfl ?_
                                refine go_if_eq (t := 966) (pc' := 964) dL_law_961 rfl rfl (fun c288 => ?_) (fun c288 => ?_)
                                · rw [if_pos (show (lcm (v280.2 170 0) v280.1) = 0 from c288)] at h
                                  refine go_goto (t := 1920) dL_law_966 rfl ?_
                                  obtain ⟨g286, h⟩ := gd h
                                  refine go_iinc (L' := [some (pvS), some (pvR 10 0 0), some (pvR 11 0 129), some (pvR 13 1 170), some (pvI (y1 + 7)), some (pvI v272.1), some (pvI v280.1), none]) (pc' := 1923) dL_law_1920 rfl rfl g286 rfl ?_
                                  refine go_goto (t := 23) dL_law_1923 rfl ?_
                                  exact go_sub (ih (y1 + 7) v280.2 n4 v272.2.1 _ h) ⟨Or.inr rfl, Or.inr rfl, Or.inr rfl, Or.inr rfl, Or.inr rfl, Or.inl rfl, Or.inl rfl, Or.inr rfl, trivial⟩
                                · rw [if_neg (show ¬ ((lcm (v280.2 170 0) v280.1) = 0) from c288)] at h
                                  refine go_iconst (pc' := 965) dL_law_964 rfl (r32_c rfl) ?_
                                  obtain ⟨g287, h⟩ := gd h
                                  cases h
                                  exact go_zret dL_law_965 rfl g287 rfl
                            · rw [if_neg (show ¬ (v282 = v272.1) from c291)] at h
                              refine go_iconst (pc' := 948) dL_law_947 rfl (r32_c rfl) ?_
                              obtain ⟨g290, h⟩ := gd h
                              cases h
                              exact go_zret dL_law_948 rfl g290 rfl
                          · rw [if_neg c292] at h
                            by_cases c327 : (iand ((q.2 (Int.toNat y1)).toInt) 31) = 11
                            · rw [if_pos c327] at h
                              refine go_table (t := 969) dL_law_40 (Or.inr ⟨by omega, by omega, by rw [c327]; rfl⟩) rfl ?_
                              refine go_aload_n (pc' := 970) dL_law_969 rfl rfl (Nat.le_of_ble_eq_true rfl) ?_
                              refine go_aload_n (pc' := 971) dL_law_970 rfl rfl (Nat.le_of_ble_eq_true rfl) ?_
                              refine go_iload (pc' := 973) dL_law_971 rfl rfl ?_
                              refine go_iconst (pc' := 974) dL_law_973 rfl (r32_c rfl) ?_
                              obtain ⟨g293, h⟩ := gd h
                              refine go_iadd (pc' := 975) dL_law_974 rfl g293 ?_
                              obtain ⟨g294, h⟩ := gd h
                              refine go_sald (pc' := 976) dL_law_975 rfl rfl g294 ?_
                              refine go_aload_n (pc' := 977) dL_law_976 rfl rfl (Nat.le_of_ble_eq_true rfl) ?_
                              refine go_iload (pc' := 979) dL_law_977 rfl rfl ?_
                              refine go_iconst (pc' := 980) dL_law_979 rfl (r32_c rfl) ?_
                              obtain ⟨g295, h⟩ := gd h
                              refine go_iadd (pc' := 981) dL_law_980 rfl g295 ?_
                              obtain ⟨g296, h⟩ := gd h
                              refine go_sald (pc' := 982) dL_law_981 rfl rfl g296 ?_
                              refine go_aload_n (pc' := 983) dL_law_982 rfl rfl (Nat.le_of_ble_eq_true rfl) ?_
                              refine go_iload (pc' := 985) dL_law_983 rfl rfl ?_
                              refine go_iconst (pc' := 986) dL_law_985 rfl (r32_c rfl) ?_
                              obtain ⟨g297, h⟩ := gd h
                              refine go_iadd (pc' := 987) dL_law_986 rfl g297 ?_
                              obtain ⟨g298, h⟩ := gd h
                              refine go_sald (pc' := 988) dL_law_987 rfl rfl g298 ?_
                              refine go_aload_n (pc' := 989) dL_law_988 rfl rfl (Nat.le_of_ble_eq_true rfl) ?_
                              refine go_iload (pc' := 991) dL_law_989 rfl rfl ?_
                              refine go_iconst (pc' := 992) dL_law_991 rfl (r32_c rfl) ?_
                              obtain ⟨g299, h⟩ := gd h
                              refine go_iadd (pc' := 993) dL_law_992 rfl g299 ?_
                              obtain ⟨g300, h⟩ := gd h
                              refine go_sald (pc' := 994) dL_law_993 rfl rfl g300 ?_
                              refine go_aload_n (pc' := 995) dL_law_994 rfl rfl (Nat.le_of_ble_eq_true rfl) ?_
                              refine go_iload (pc' := 997) dL_law_995 rfl rfl ?_
                              refine go_iconst (pc' := 998) dL_law_997 rfl (r32_c rfl) ?_
                              obtain ⟨g301, h⟩ := gd h
                              refine go_iadd (pc' := 999) dL_law_998 rfl g301 ?_
                              obtain ⟨g302, h⟩ := gd h
                              refine go_sald (pc' := 1000) dL_law_999 rfl rfl g302 ?_
                              refine go_aload_n (pc' := 1001) dL_law_1000 rfl rfl (Nat.le_of_ble_eq_true rfl) ?_
                              obtain ⟨v303, k304, h⟩ := bd h
                              have k304 := l_L_fact (d + 276) n4 e3 σ2 ((q.2 (Int.toNat (y1 + 1))).toInt) ((q.2 (Int.toNat (y1 + 2))).toInt) ((q.2 (Int.toNat (y1 + 3))).toInt) ((q.2 (Int.toNat (y1 + 4))).toInt) ((q.2 (Int.toNat (y1 + 5))).toInt) _ k304
                              refine go_call (kc := 75) (Mc := mt75) (v := some (pvI v303.1)) (w' := (true, n4, v303.2.1, v303.2.2)) (pc' := 1004) (st' := [pvI v303.1]) [pvR 10 0 0, pvI ((q.2 (Int.toNat (y1 + 1))).toInt), pvI ((q.2 (Int.toNat (y1 + 2))).toInt), pvI ((q.2 (Int.toNat (y1 + 3))).toInt), pvI ((q.2 (Int.toNat (y1 + 4))).toInt), pvI ((q.2 (Int.toNat (y1 + 5))).toInt), pvR 13 1 170] [] (Or.inr (Or.inl rfl)) dL_law_1001 rfl rm_12_133 mtE75 rfl rfl rfl (Nat.le_of_ble_eq_true rfl) (Or.inl (by decide)) k304 rfl ?_
                              refine go_istore (L' := [some (pvS), some (pvR 10 0 0), some (pvR 11 0 129), some (pvR 13 1 170), some (pvI y1), some (pvI v303.1), none, none]) (pc' := 1006) dL_law_1004 rfl (Nat.le_of_ble_eq_true rfl) rfl ?_
                              refine go_aload_n (pc' := 1007) dL_law_1006 rfl rfl (Nat.le_of_ble_eq_true rfl) ?_
                              refine go_aload_n (pc' := 1008) dL_law_1007 rfl rfl (Nat.le_of_ble_eq_true rfl) ?_
                              refine go_iload (pc' := 1010) dL_law_1008 rfl rfl ?_
                              refine go_iconst (pc' := 1011) dL_law_1010 rfl (r32_c rfl) ?_
                              obtain ⟨g305, h⟩ := gd h
                              refine go_iadd (pc' := 1012) dL_law_1011 rfl g305 ?_
                              obtain ⟨g306, h⟩ := gd h
                              refine go_sald (pc' := 1013) dL_law_1012 rfl rfl g306 ?_
                              refine go_aload_n (pc' := 1014) dL_law_1013 rfl rfl (Nat.le_of_ble_eq_true rfl) ?_
                              refine go_iload (pc' := 1016) dL_law_1014 rfl rfl ?_
                              refine go_iconst (pc' := 1017) dL_law_1016 rfl (r32_c rfl) ?_
                              obtain ⟨g307, h⟩ := gd h
                              refine go_iadd (pc' := 1018) dL_law_1017 rfl g307 ?_
                              obtain ⟨g308, h⟩ := gd h
                              refine go_sald (pc' := 1019) dL_law_1018 rfl rfl g308 ?_
                              refine go_aload_n (pc' := 1020) dL_law_1019 rfl rfl (Nat.le_of_ble_eq_true rfl) ?_
                              refine go_iload (pc' := 1022) dL_law_1020 rfl rfl ?_
                              refine go_iconst (pc' := 1023) dL_law_1022 rfl (r32_c rfl) ?_
                              obtain ⟨g309, h⟩ := gd h
                              refine go_iadd (pc' := 1024) dL_law_1023 rfl g309 ?_
                              obtain ⟨g310, h⟩ := gd h
                              refine go_sald (pc' := 1025) dL_law_1024 rfl rfl g310 ?_
                              refine go_aload_n (pc' := 1026) dL_law_1025 rfl rfl (Nat.le_of_ble_eq_true rfl) ?_
                              refine go_iload (pc' := 1028) dL_law_1026 rfl rfl ?_
                              refine go_iconst (pc' := 1029) dL_law_1028 rfl (r32_c rfl) ?_
                              obtain ⟨g311, h⟩ := gd h
                              refine go_iadd (pc' := 1030) dL_law_1029 rfl g311 ?_
                              obtain ⟨g312, h⟩ := gd h
                              refine go_sald (pc' := 1031) dL_law_1030 rfl rfl g312 ?_
                              refine go_aload_n (pc' := 1032) dL_law_1031 rfl rfl (Nat.le_of_ble_eq_true rfl) ?_
                              refine go_iload (pc' := 1034) dL_law_1032 rfl rfl ?_
                              refine go_iconst (pc' := 1035) dL_law_1034 rfl (r32_c rfl) ?_
                              obtain ⟨g313, h⟩ := gd h
                              refine go_iadd (pc' := 1036) dL_law_1035 rfl g313 ?_
                              obtain ⟨g314, h⟩ := gd h
                              refine go_sald (pc' := 1037) dL_law_1036 rfl rfl g314 ?_
                              obtain ⟨v315, k316, h⟩ := bd h
                              have k316 := l_M_fact (d + 277) n4 v303.2.1 v303.2.2 ((q.2 (Int.toNat (y1 + 1))).toInt) ((q.2 (Int.toNat (y1 + 2))).toInt) ((q.2 (Int.toNat (y1 + 3))).toInt) ((q.2 (Int.toNat (y1 + 4))).toInt) ((q.2 (Int.toNat (y1 + 5))).toInt) _ k316
                              refine go_call (kc := 195) (Mc := mt195) (v := some (pvI v315.1)) (w' := (true, n4, v303.2.1, v315.2)) (pc' := 1040) (st' := [pvI v315.1]) [pvR 11 0 129, pvI ((q.2 (Int.toNat (y1 + 1))).toInt), pvI ((q.2 (Int.toNat (y1 + 2))).toInt), pvI ((q.2 (Int.toNat (y1 + 3))).toInt), pvI ((q.2 (Int.toNat (y1 + 4))).toInt), pvI ((q.2 (Int.toNat (y1 + 5))).toInt)] [] (Or.inl rfl) dL_law_1037 rfl rm_12_136 mtE195 rfl rfl rfl (Nat.le_of_ble_eq_true rfl) (Or.inr ⟨_, _, 129, rfl, Or.inl rfl⟩) k316 rfl ?_
                              refine go_istore (L' := [some (pvS), some (pvR 10 0 0), some (pvR 11 0 129), some (pvR 13 1 170), some (pvI y1), some (pvI v303.1), some (pvI v315.1), none]) (pc' := 1042) dL_law_1040 rfl (Nat.le_of_ble_eq_true rfl) rfl ?_
                              refine go_aload_n (pc' := 1043) dL_law_1042 rfl rfl (Nat.le_of_ble_eq_true rfl) ?_
                              obtain ⟨v317, k318, h⟩ := bd h
                              have k318 := l_M_thrown (d + 283) n4 v303.2.1 v315.2 _ k318
                              refine go_call (kc := 168) (Mc := mt168) (v := some (pvI v317)) (w' := (true, n4, v303.2.1, v315.2)) (pc' := 1046) (st' := [pvI v317]) [pvR 11 0 129] [] (Or.inl rfl) dL_law_1043 rfl rm_12_93 mtE168 rfl rfl rfl (Nat.le_of_ble_eq_true rfl) (Or.inr ⟨_, _, 129, rfl, Or.inl rfl⟩) k318 rfl ?_
                              refine go_iload (pc' := 1048) dL_law_1046 rfl rfl ?_
                              refine go_icmp_eq (t := 1053) (pc' := 1051) dL_law_1048 rfl rfl (fun c326 => ?_) (fun c326 => ?_)
                              · rw [if_pos (show v317 = v303.1 from c326)] at h
                                refine go_iload (pc' := 1055) dL_law_1053 rfl rfl ?_
                                refine go_if_ne (t := 1070) (pc' := 1058) dL_law_1055 rfl rfl (fun c324 => ?_) (fun c324 => ?_)
                                · rw [if_pos (show v303.1 ≠ 0 from c324)] at h
                                  refine go_goto (t := 1920) dL_law_1070 rfl ?_
                                  obtain ⟨g319, h⟩ := gd h
                                  refine go_iinc (L' := [some (pvS), some (pvR 10 0 0), some (pvR 11 0 129), some (pvR 13 1 170), some (pvI (y1 + 7)), some (pvI v303.1), some (pvI v315.1), none]) (pc' := 1923) dL_law_1920 rfl rfl g319 rfl ?_
                                  refine go_goto (t := 23) dL_law_1923 rfl ?_
                                  exact go_sub (ih (y1 + 7) v315.2 n4 v303.2.1 _ h) ⟨Or.inr rfl, Or.inr rfl, Or.inr rfl, Or.inr rfl, Or.inr rfl, Or.inl rfl, Or.inl rfl, Or.inr rfl, trivial⟩
                                · rw [if_neg (show ¬ (v303.1 ≠ 0) from c324)] at h
                                  refine go_aload_n (pc' := 1059) dL_law_1058 rfl rfl (Nat.le_of_ble_eq_true rfl) ?_
                                  refine go_iconst (pc' := 1060) dL_law_1059 rfl (r32_c rfl) ?_
                                  obtain ⟨g320, h⟩ := gd h
                                  refine go_lald (pc' := 1061) dL_law_1060 rfl g320 ?_
                                  refine go_iload (pc' := 1063) dL_law_1061 rfl rfl ?_
                                  refine go_i2l (pc' := 1064) dL_law_1063 rfl ?_
                                  refine go_lcmp (pc' := 1065) dL_law_1064 rfl ?_
                                  refine go_if_eq (t := 1070) (pc' := 1068) dL_law_1065 rfl rfl (fun c323 => ?_) (fun c323 => ?_)
                                  · rw [if_pos (show (lcm (v315.2 170 0) v315.1) = 0 from c323)] at h
                                    refine go_goto (t := 1920) dL_law_1070 rfl ?_
                                    obtain ⟨g321, h⟩ := gd h
                                    refine go_iinc (L' := [some (pvS), some (pvR 10 0 0), some (pvR 11 0 129), some (pvR 13 1 170), some (pvI (y1 + 7)), some (pvI v303.1), some (pvI v315.1), none]) (pc' := 1923) dL_law_1920 rfl rfl g321 rfl ?_
                                    refine go_goto (t := 23) dL_law_1923 rfl ?_
                                    exact go_sub (ih (y1 + 7) v315.2 n4 v303.2.1 _ h) ⟨Or.inr rfl, Or.inr rfl, Or.inr rfl, Or.inr rfl, Or.inr rfl, Or.inl rfl, Or.inl rfl, Or.inr rfl, trivial⟩
                                  · rw [if_neg (show ¬ ((lcm (v315.2 170 0) v315.1) = 0) from c323)] at h
                                    refine go_iconst (pc' := 1069) dL_law_1068 rfl (r32_c rfl) ?_
                                    obtain ⟨g322, h⟩ := gd h
                                    cases h
                                    exact go_zret dL_law_1069 rfl g322 rfl
                              · rw [if_neg (show ¬ (v317 = v303.1) from c326)] at h
                                refine go_iconst (pc' := 1052) dL_law_1051 rfl (r32_c rfl) ?_
                                obtain ⟨g325, h⟩ := gd h
                                cases h
                                exact go_zret dL_law_1052 rfl g325 rfl
                            · rw [if_neg c327] at h
                              by_cases c358 : (iand ((q.2 (Int.toNat y1)).toInt) 31) = 12
                              · rw [if_pos c358] at h
                                refine go_table (t := 1073) dL_law_40 (Or.inr ⟨by omega, by omega, by rw [c358]; rfl⟩) rfl ?_
                                refine go_aload_n (pc' := 1074) dL_law_1073 rfl rfl (Nat.le_of_ble_eq_true rfl) ?_
                                refine go_aload_n (pc' := 1075) dL_law_1074 rfl rfl (Nat.le_of_ble_eq_true rfl) ?_
                                refine go_iload (pc' := 1077) dL_law_1075 rfl rfl ?_
                                refine go_iconst (pc' := 1078) dL_law_1077 rfl (r32_c rfl) ?_
                                obtain ⟨g328, h⟩ := gd h
                                refine go_iadd (pc' := 1079) dL_law_1078 rfl g328 ?_
                                obtain ⟨g329, h⟩ := gd h
                                refine go_sald (pc' := 1080) dL_law_1079 rfl rfl g329 ?_
                                refine go_aload_n (pc' := 1081) dL_law_1080 rfl rfl (Nat.le_of_ble_eq_true rfl) ?_
                                refine go_iload (pc' := 1083) dL_law_1081 rfl rfl ?_
                                refine go_iconst (pc' := 1084) dL_law_1083 rfl (r32_c rfl) ?_
                                obtain ⟨g330, h⟩ := gd h
                                refine go_iadd (pc' := 1085) dL_law_1084 rfl g330 ?_
                                obtain ⟨g331, h⟩ := gd h
                                refine go_sald (pc' := 1086) dL_law_1085 rfl rfl g331 ?_
                                refine go_aload_n (pc' := 1087) dL_law_1086 rfl rfl (Nat.le_of_ble_eq_true rfl) ?_
                                refine go_iload (pc' := 1089) dL_law_1087 rfl rfl ?_
                                refine go_iconst (pc' := 1090) dL_law_1089 rfl (r32_c rfl) ?_
                                obtain ⟨g332, h⟩ := gd h
                                refine go_iadd (pc' := 1091) dL_law_1090 rfl g332 ?_
                                obtain ⟨g333, h⟩ := gd h
                                refine go_sald (pc' := 1092) dL_law_1091 rfl rfl g333 ?_
                                refine go_aload_n (pc' := 1093) dL_law_1092 rfl rfl (Nat.le_of_ble_eq_true rfl) ?_
                                refine go_iload (pc' := 1095) dL_law_1093 rfl rfl ?_
                                refine go_iconst (pc' := 1096) dL_law_1095 rfl (r32_c rfl) ?_
                                obtain ⟨g334, h⟩ := gd h
                                refine go_iadd (pc' := 1097) dL_law_1096 rfl g334 ?_
                                obtain ⟨g335, h⟩ := gd h
                                refine go_sald (pc' := 1098) dL_law_1097 rfl rfl g335 ?_
                                refine go_aload_n (pc' := 1099) dL_law_1098 rfl rfl (Nat.le_of_ble_eq_true rfl) ?_
                                obtain ⟨v336, k337, h⟩ := bd h
                                have k337 := l_L_forget (d + 277) n4 e3 σ2 ((q.2 (Int.toNat (y1 + 1))).toInt) ((q.2 (Int.toNat (y1 + 2))).toInt) ((q.2 (Int.toNat (y1 + 3))).toInt) ((q.2 (Int.toNat (y1 + 4))).toInt) _ k337
                                refine go_call (kc := 101) (Mc := mt101) (v := some (pvI v336.1)) (w' := (true, n4, v336.2.1, v336.2.2)) (pc' := 1102) (st' := [pvI v336.1]) [pvR 10 0 0, pvI ((q.2 (Int.toNat (y1 + 1))).toInt), pvI ((q.2 (Int.toNat (y1 + 2))).toInt), pvI ((q.2 (Int.toNat (y1 + 3))).toInt), pvI ((q.2 (Int.toNat (y1 + 4))).toInt), pvR 13 1 170] [] (Or.inr (Or.inl rfl)) dL_law_1099 rfl rm_12_137 mtE101 rfl rfl rfl (Nat.le_of_ble_eq_true rfl) (Or.inl (by decide)) k337 rfl ?_
                                refine go_istore (L' := [some (pvS), some (pvR 10 0 0), some (pvR 11 0 129), some (pvR 13 1 170), some (pvI y1), some (pvI v336.1), none, none]) (pc' := 1104) dL_law_1102 rfl (Nat.le_of_ble_eq_true rfl) rfl ?_
                                refine go_aload_n (pc' := 1105) dL_law_1104 rfl rfl (Nat.le_of_ble_eq_true rfl) ?_
                                refine go_aload_n (pc' := 1106) dL_law_1105 rfl rfl (Nat.le_of_ble_eq_true rfl) ?_
                                refine go_iload (pc' := 1108) dL_law_1106 rfl rfl ?_
                                refine go_iconst (pc' := 1109) dL_law_1108 rfl (r32_c rfl) ?_
                                obtain ⟨g338, h⟩ := gd h
                                refine go_iadd (pc' := 1110) dL_law_1109 rfl g338 ?_
                                obtain ⟨g339, h⟩ := gd h
                                refine go_sald (pc' := 1111) dL_law_1110 rfl rfl g339 ?_
                                refine go_aload_n (pc' := 1112) dL_law_1111 rfl rfl (Nat.le_of_ble_eq_true rfl) ?_
                                refine go_iload (pc' := 1114) dL_law_1112 rfl rfl ?_
                                refine go_iconst (pc' := 1115) dL_law_1114 rfl (r32_c rfl) ?_
                                obtain ⟨g340, h⟩ := gd h
                                refine go_iadd (pc' := 1116) dL_law_1115 rfl g340 ?_
                                obtain ⟨g341, h⟩ := gd h
                                refine go_sald (pc' := 1117) dL_law_1116 rfl rfl g341 ?_
                                refine go_aload_n (pc' := 1118) dL_law_1117 rfl rfl (Nat.le_of_ble_eq_true rfl) ?_
                                refine go_iload (pc' := 1120) dL_law_1118 rfl rfl ?_
                                refine go_iconst (pc' := 1121) dL_law_1120 rfl (r32_c rfl) ?_
                                obtain ⟨g342, h⟩ := gd h
                                refine go_iadd (pc' := 1122) dL_law_1121 rfl g342 ?_
                                obtain ⟨g343, h⟩ := gd h
                                refine go_sald (pc' := 1123) dL_law_1122 rfl rfl g343 ?_
                                refine go_aload_n (pc' := 1124) dL_law_1123 rfl rfl (Nat.le_of_ble_eq_true rfl) ?_
                                refine go_iload (pc' := 1126) dL_law_1124 rfl rfl ?_
                                refine go_iconst (pc' := 1127) dL_law_1126 rfl (r32_c rfl) ?_
                                obtain ⟨g344, h⟩ := gd h
                                refine go_iadd (pc' := 1128) dL_law_1127 rfl g344 ?_
                                obtain ⟨g345, h⟩ := gd h
                                refine go_sald (pc' := 1129) dL_law_1128 rfl rfl g345 ?_
                                obtain ⟨v346, k347, h⟩ := bd h
                                have k347 := l_M_forget (d + 278) n4 v336.2.1 v336.2.2 ((q.2 (Int.toNat (y1 + 1))).toInt) ((q.2 (Int.toNat (y1 + 2))).toInt) ((q.2 (Int.toNat (y1 + 3))).toInt) ((q.2 (Int.toNat (y1 + 4))).toInt) _ k347
                                refine go_call (kc := 206) (Mc := mt206) (v := some (pvI v346.1)) (w' := (true, n4, v336.2.1, v346.2)) (pc' := 1132) (st' := [pvI v346.1]) [pvR 11 0 129, pvI ((q.2 (Int.toNat (y1 + 1))).toInt), pvI ((q.2 (Int.toNat (y1 + 2))).toInt), pvI ((q.2 (Int.toNat (y1 + 3))).toInt), pvI ((q.2 (Int.toNat (y1 + 4))).toInt)] [] (Or.inl rfl) dL_law_1129 rfl rm_12_139 mtE206 rfl rfl rfl (Nat.le_of_ble_eq_true rfl) (Or.inr ⟨_, _, 129, rfl, Or.inl rfl⟩) k347 rfl ?_
                                refine go_istore (L' := [some (pvS), some (pvR 10 0 0), some (pvR 11 0 129), some (pvR 13 1 170), some (pvI y1), some (pvI v336.1), some (pvI v346.1), none]) (pc' := 1134) dL_law_1132 rfl (Nat.le_of_ble_eq_true rfl) rfl ?_
                                refine go_aload_n (pc' := 1135) dL_law_1134 rfl rfl (Nat.le_of_ble_eq_true rfl) ?_
                                obtain ⟨v348, k349, h⟩ := bd h
                                have k349 := l_M_thrown (d + 283) n4 v336.2.1 v346.2 _ k349
                                refine go_call (kc := 168) (Mc := mt168) (v := some (pvI v348)) (w' := (true, n4, v336.2.1, v346.2)) (pc' := 1138) (st' := [pvI v348]) [pvR 11 0 129] [] (Or.inl rfl) dL_law_1135 rfl rm_12_93 mtE168 rfl rfl rfl (Nat.le_of_ble_eq_true rfl) (Or.inr ⟨_, _, 129, rfl, Or.inl rfl⟩) k349 rfl ?_
                                refine go_iload (pc' := 1140) dL_law_1138 rfl rfl ?_
                                refine go_icmp_eq (t := 1145) (pc' := 1143) dL_law_1140 rfl rfl (fun c357 => ?_) (fun c357 => ?_)
                                · rw [if_pos (show v348 = v336.1 from c357)] at h
                                  refine go_iload (pc' := 1147) dL_law_1145 rfl rfl ?_
                                  refine go_if_ne (t := 1162) (pc' := 1150) dL_law_1147 rfl rfl (fun c355 => ?_) (fun c355 => ?_)
                                  · rw [if_pos (show v336.1 ≠ 0 from c355)] at h
                                    refine go_goto (t := 1920) dL_law_1162 rfl ?_
                                    obtain ⟨g350, h⟩ := gd h
                                    refine go_iinc (L' := [some (pvS), some (pvR 10 0 0), some (pvR 11 0 129), some (pvR 13 1 170), some (pvI (y1 + 7)), some (pvI v336.1), some (pvI v346.1), none]) (pc' := 1923) dL_law_1920 rfl rfl g350 rfl ?_
                                    refine go_goto (t := 23) dL_law_1923 rfl ?_
                                    exact go_sub (ih (y1 + 7) v346.2 n4 v336.2.1 _ h) ⟨Or.inr rfl, Or.inr rfl, Or.inr rfl, Or.inr rfl, Or.inr rfl, Or.inl rfl, Or.inl rfl, Or.inr rfl, trivial⟩
                                  · rw [if_neg (show ¬ (v336.1 ≠ 0) from c355)] at h
                                    refine go_aload_n (pc' := 1151) dL_law_1150 rfl rfl (Nat.le_of_ble_eq_true rfl) ?_
                                    refine go_iconst (pc' := 1152) dL_law_1151 rfl (r32_c rfl) ?_
                                    obtain ⟨g351, h⟩ := gd h
                                    refine go_lald (pc' := 1153) dL_law_1152 rfl g351 ?_
                                    refine go_iload (pc' := 1155) dL_law_1153 rfl rfl ?_
                                    refine go_i2l (pc' := 1156) dL_law_1155 rfl ?_
                                    refine go_lcmp (pc' := 1157) dL_law_1156 rfl ?_
                                    refine go_if_eq (t := 1162) (pc' := 1160) dL_law_1157 rfl rfl (fun c354 => ?_) (fun c354 => ?_)
                                    · rw [if_pos (show (lcm (v346.2 170 0) v346.1) = 0 from c354)] at h
                                      refine go_goto (t := 1920) dL_law_1162 rfl ?_
                                      obtain ⟨g352, h⟩ := gd h
                                      refine go_iinc (L' := [some (pvS), some (pvR 10 0 0), some (pvR 11 0 129), some (pvR 13 1 170), some (pvI (y1 + 7)), some (pvI v336.1), some (pvI v346.1), none]) (pc' := 1923) dL_law_1920 rfl rfl g352 rfl ?_
                                      refine go_goto (t := 23) dL_law_1923 rfl ?_
                                      exact go_sub (ih (y1 + 7) v346.2 n4 v336.2.1 _ h) ⟨Or.inr rfl, Or.inr rfl, Or.inr rfl, Or.inr rfl, Or.inr rfl, Or.inl rfl, Or.inl rfl, Or.inr rfl, trivial⟩
                                    · rw [if_neg (show ¬ ((lcm (v346.2 170 0) v346.1) = 0) from c354)] at h
                                      refine go_iconst (pc' := 1161) dL_law_1160 rfl (r32_c rfl) ?_
                                      obtain ⟨g353, h⟩ := gd h
                                      cases h
                                      exact go_zret dL_law_1161 rfl g353 rfl
                                · rw [if_neg (show ¬ (v348 = v336.1) from c357)] at h
                                  refine go_iconst (pc' := 1144) dL_law_1143 rfl (r32_c rfl) ?_
                                  obtain ⟨g356, h⟩ := gd h
                                  cases h
                                  exact go_zret dL_law_1144 rfl g356 rfl
                              · rw [if_neg c358] at h
                                by_cases c389 : (iand ((q.2 (Int.toNat y1)).toInt) 31) = 13
                                · rw [if_pos c389] at h
                                  refine go_table (t := 1165) dL_law_40 (Or.inr ⟨by omega, by omega, by rw [c389]; rfl⟩) rfl ?_
                                  refine go_aload_n (pc' := 1166) dL_law_1165 rfl rfl (Nat.le_of_ble_eq_true rfl) ?_
                                  refine go_aload_n (pc' := 1167) dL_law_1166 rfl rfl (Nat.le_of_ble_eq_true rfl) ?_
                                  refine go_iload (pc' := 1169) dL_law_1167 rfl rfl ?_
                                  refine go_iconst (pc' := 1170) dL_law_1169 rfl (r32_c rfl) ?_
                                  obtain ⟨g359, h⟩ := gd h
                                  refine go_iadd (pc' := 1171) dL_law_1170 rfl g359 ?_
                                  obtain ⟨g360, h⟩ := gd h
                                  refine go_sald (pc' := 1172) dL_law_1171 rfl rfl g360 ?_
                                  refine go_aload_n (pc' := 1173) dL_law_1172 rfl rfl (Nat.le_of_ble_eq_true rfl) ?_
                                  refine go_iload (pc' := 1175) dL_law_1173 rfl rfl ?_
                                  refine go_iconst (pc' := 1176) dL_law_1175 rfl (r32_c rfl) ?_
                                  obtain ⟨g361, h⟩ := gd h
                                  refine go_iadd (pc' := 1177) dL_law_1176 rfl g361 ?_
                                  obtain ⟨g362, h⟩ := gd h
                                  refine go_sald (pc' := 1178) dL_law_1177 rfl rfl g362 ?_
                                  refine go_aload_n (pc' := 1179) dL_law_1178 rfl rfl (Nat.le_of_ble_eq_true rfl) ?_
                                  refine go_iload (pc' := 1181) dL_law_1179 rfl rfl ?_
                                  refine go_iconst (pc' := 1182) dL_law_1181 rfl (r32_c rfl) ?_
                                  obtain ⟨g363, h⟩ := gd h
                                  refine go_iadd (pc' := 1183) dL_law_1182 rfl g363 ?_
                                  obtain ⟨g364, h⟩ := gd h
                                  refine go_sald (pc' := 1184) dL_law_1183 rfl rfl g364 ?_
                                  refine go_aload_n (pc' := 1185) dL_law_1184 rfl rfl (Nat.le_of_ble_eq_true rfl) ?_
                                  refine go_iload (pc' := 1187) dL_law_1185 rfl rfl ?_
                                  refine go_iconst (pc' := 1188) dL_law_1187 rfl (r32_c rfl) ?_
                                  obtain ⟨g365, h⟩ := gd h
                                  refine go_iadd (pc' := 1189) dL_law_1188 rfl g365 ?_
                                  obtain ⟨g366, h⟩ := gd h
                                  refine go_sald (pc' := 1190) dL_law_1189 rfl rfl g366 ?_
                                  refine go_aload_n (pc' := 1191) dL_law_1190 rfl rfl (Nat.le_of_ble_eq_true rfl) ?_
                                  obtain ⟨v367, k368, h⟩ := bd h
                                  have k368 := l_L_cell (d + 41) n4 e3 σ2 ((q.2 (Int.toNat (y1 + 1))).toInt) ((q.2 (Int.toNat (y1 + 2))).toInt) ((q.2 (Int.toNat (y1 + 3))).toInt) ((q.2 (Int.toNat (y1 + 4))).toInt) _ k368
                                  refine go_call (kc := 104) (Mc := mt104) (v := some (pvI v367.1)) (w' := (true, n4, v367.2.1, v367.2.2)) (pc' := 1194) (st' := [pvI v367.1]) [pvR 10 0 0, pvI ((q.2 (Int.toNat (y1 + 1))).toInt), pvI ((q.2 (Int.toNat (y1 + 2))).toInt), pvI ((q.2 (Int.toNat (y1 + 3))).toInt), pvI ((q.2 (Int.toNat (y1 + 4))).toInt), pvR 13 1 170] [] (Or.inr (Or.inl rfl)) dL_law_1191 rfl rm_12_140 mtE104 rfl rfl rfl (Nat.le_of_ble_eq_true rfl) (Or.inl (by decide)) k368 rfl ?_
                                  refine go_istore (L' := [some (pvS), some (pvR 10 0 0), some (pvR 11 0 129), some (pvR 13 1 170), some (pvI y1), some (pvI v367.1), none, none]) (pc' := 1196) dL_law_1194 rfl (Nat.le_of_ble_eq_true rfl) rfl ?_
                                  refine go_aload_n (pc' := 1197) dL_law_1196 rfl rfl (Nat.le_of_ble_eq_true rfl) ?_
                                  refine go_aload_n (pc' := 1198) dL_law_1197 rfl rfl (Nat.le_of_ble_eq_true rfl) ?_
                                  refine go_iload (pc' := 1200) dL_law_1198 rfl rfl ?_
                                  refine go_iconst (pc' := 1201) dL_law_1200 rfl (r32_c rfl) ?_
                                  obtain ⟨g369, h⟩ := gd h
                                  refine go_iadd (pc' := 1202) dL_law_1201 rfl g369 ?_
                                  obtain ⟨g370, h⟩ := gd h
                                  refine go_sald (pc' := 1203) dL_law_1202 rfl rfl g370 ?_
                                  refine go_aload_n (pc' := 1204) dL_law_1203 rfl rfl (Nat.le_of_ble_eq_true rfl) ?_
                                  refine go_iload (pc' := 1206) dL_law_1204 rfl rfl ?_
                                  refine go_iconst (pc' := 1207) dL_law_1206 rfl (r32_c rfl) ?_
                                  obtain ⟨g371, h⟩ := gd h
                                  refine go_iadd (pc' := 1208) dL_law_1207 rfl g371 ?_
                                  obtain ⟨g372, h⟩ := gd h
                                  refine go_sald (pc' := 1209) dL_law_1208 rfl rfl g372 ?_
                                  refine go_aload_n (pc' := 1210) dL_law_1209 rfl rfl (Nat.le_of_ble_eq_true rfl) ?_
                                  refine go_iload (pc' := 1212) dL_law_1210 rfl rfl ?_
                                  refine go_iconst (pc' := 1213) dL_law_1212 rfl (r32_c rfl) ?_
                                  obtain ⟨g373, h⟩ := gd h
                                  refine go_iadd (pc' := 1214) dL_law_1213 rfl g373 ?_
                                  obtain ⟨g374, h⟩ := gd h
                                  refine go_sald (pc' := 1215) dL_law_1214 rfl rfl g374 ?_
                                  refine go_aload_n (pc' := 1216) dL_law_1215 rfl rfl (Nat.le_of_ble_eq_true rfl) ?_
                                  refine go_iload (pc' := 1218) dL_law_1216 rfl rfl ?_
                                  refine go_iconst (pc' := 1219) dL_law_1218 rfl (r32_c rfl) ?_
                                  obtain ⟨g375, h⟩ := gd h
                                  refine go_iadd (pc' := 1220) dL_law_1219 rfl g375 ?_
                                  obtain ⟨g376, h⟩ := gd h
                                  refine go_sald (pc' := 1221) dL_law_1220 rfl rfl g376 ?_
                                  obtain ⟨v377, k378, h⟩ := bd h
                                  have k378 := l_M_cell (d + 3) n4 v367.2.1 v367.2.2 ((q.2 (Int.toNat (y1 + 1))).toInt) ((q.2 (Int.toNat (y1 + 2))).toInt) ((q.2 (Int.toNat (y1 + 3))).toInt) ((q.2 (Int.toNat (y1 + 4))).toInt) _ k378
                                  refine go_call (kc := 207) (Mc := mt207) (v := some (pvL v377.1)) (w' := (true, n4, v367.2.1, v377.2)) (pc' := 1224) (st' := [pvL v377.1]) [pvR 11 0 129, pvI ((q.2 (Int.toNat (y1 + 1))).toInt), pvI ((q.2 (Int.toNat (y1 + 2))).toInt), pvI ((q.2 (Int.toNat (y1 + 3))).toInt), pvI ((q.2 (Int.toNat (y1 + 4))).toInt)] [] (Or.inl rfl) dL_law_1221 rfl rm_12_142 mtE207 rfl rfl rfl (Nat.le_of_ble_eq_true rfl) (Or.inr ⟨_, _, 129, rfl, Or.inl rfl⟩) k378 rfl ?_
                                  refine go_lstore (L' := [some (pvS), some (pvR 10 0 0), some (pvR 11 0 129), some (pvR 13 1 170), some (pvI y1), some (pvI v367.1), some (pvL v377.1), none]) (pc' := 1226) dL_law_1224 rfl (Nat.le_of_ble_eq_true rfl) rfl ?_
                                  refine go_aload_n (pc' := 1227) dL_law_1226 rfl rfl (Nat.le_of_ble_eq_true rfl) ?_
                                  obtain ⟨v379, k380, h⟩ := bd h
                                  have k380 := l_M_thrown (d + 283) n4 v367.2.1 v377.2 _ k380
                                  refine go_call (kc := 168) (Mc := mt168) (v := some (pvI v379)) (w' := (true, n4, v367.2.1, v377.2)) (pc' := 1230) (st' := [pvI v379]) [pvR 11 0 129] [] (Or.inl rfl) dL_law_1227 rfl rm_12_93 mtE168 rfl rfl rfl (Nat.le_of_ble_eq_true rfl) (Or.inr ⟨_, _, 129, rfl, Or.inl rfl⟩) k380 rfl ?_
                                  refine go_iload (pc' := 1232) dL_law_1230 rfl rfl ?_
                                  refine go_icmp_eq (t := 1237) (pc' := 1235) dL_law_1232 rfl rfl (fun c388 => ?_) (fun c388 => ?_)
                                  · rw [if_pos (show v379 = v367.1 from c388)] at h
                                    refine go_iload (pc' := 1239) dL_law_1237 rfl rfl ?_
                                    refine go_if_ne (t := 1253) (pc' := 1242) dL_law_1239 rfl rfl (fun c386 => ?_) (fun c386 => ?_)
                                    · rw [if_pos (show v367.1 ≠ 0 from c386)] at h
                                      refine go_goto (t := 1920) dL_law_1253 rfl ?_
                                      obtain ⟨g381, h⟩ := gd h
                                      refine go_iinc (L' := [some (pvS), some (pvR 10 0 0), some (pvR 11 0 129), some (pvR 13 1 170), some (pvI (y1 + 7)), some (pvI v367.1), some (pvL v377.1), none]) (pc' := 1923) dL_law_1920 rfl rfl g381 rfl ?_
                                      refine go_goto (t := 23) dL_law_1923 rfl ?_
                                      exact go_sub (ih (y1 + 7) v377.2 n4 v367.2.1 _ h) ⟨Or.inr rfl, Or.inr rfl, Or.inr rfl, Or.inr rfl, Or.inr rfl, Or.inl rfl, Or.inl rfl, Or.inr rfl, trivial⟩
                                    · rw [if_neg (show ¬ (v367.1 ≠ 0) from c386)] at h
                                      refine go_aload_n (pc' := 1243) dL_law_1242 rfl rfl (Nat.le_of_ble_eq_true rfl) ?_
                                      refine go_iconst (pc' := 1244) dL_law_1243 rfl (r32_c rfl) ?_
                                      obtain ⟨g382, h⟩ := gd h
                                      refine go_lald (pc' := 1245) dL_law_1244 rfl g382 ?_
                                      refine go_lload (pc' := 1247) dL_law_1245 rfl rfl ?_
                                      refine go_lcmp (pc' := 1248) dL_law_1247 rfl ?_
                                      refine go_if_eq (t := 1253) (pc' := 1251) dL_law_1248 rfl rfl (fun c385 => ?_) (fun c385 => ?_)
                                      · rw [if_pos (show (lcm (v377.2 170 0) v377.1) = 0 from c385)] at h
                                        refine go_goto (t := 1920) dL_law_1253 rfl ?_
                                        obtain ⟨g383, h⟩ := gd h
                                        refine go_iinc (L' := [some (pvS), some (pvR 10 0 0), some (pvR 11 0 129), some (pvR 13 1 170), some (pvI (y1 + 7)), some (pvI v367.1), some (pvL v377.1), none]) (pc' := 1923) dL_law_1920 rfl rfl g383 rfl ?_
                                        refine go_goto (t := 23) dL_law_1923 rfl ?_
                                        exact go_sub (ih (y1 + 7) v377.2 n4 v367.2.1 _ h) ⟨Or.inr rfl, Or.inr rfl, Or.inr rfl, Or.inr rfl, Or.inr rfl, Or.inl rfl, Or.inl rfl, Or.inr rfl, trivial⟩
                                      · rw [if_neg (show ¬ ((lcm (v377.2 170 0) v377.1) = 0) from c385)] at h
                                        refine go_iconst (pc' := 1252) dL_law_1251 rfl (r32_c rfl) ?_
                                        obtain ⟨g384, h⟩ := gd h
                                        cases h
                                        exact go_zret dL_law_1252 rfl g384 rfl
                                  · rw [if_neg (show ¬ (v379 = v367.1) from c388)] at h
                                    refine go_iconst (pc' := 1236) dL_law_1235 rfl (r32_c rfl) ?_
                                    obtain ⟨g387, h⟩ := gd h
                                    cases h
                                    exact go_zret dL_law_1236 rfl g387 rfl
                                · rw [if_neg c389] at h
                                  by_cases c420 : (iand ((q.2 (Int.toNat y1)).toInt) 31) = 14
                                  · rw [if_pos c420] at h
                                    refine go_table (t := 1256) dL_law_40 (Or.inr ⟨by omega, by omega, by rw [c420]; rfl⟩) rfl ?_
                                    refine go_aload_n (pc' := 1257) dL_law_1256 rfl rfl (Nat.le_of_ble_eq_true rfl) ?_
                                    refine go_aload_n (pc' := 1258) dL_law_1257 rfl rfl (Nat.le_of_ble_eq_true rfl) ?_
                                    refine go_iload (pc' := 1260) dL_law_1258 rfl rfl ?_
                                    refine go_iconst (pc' := 1261) dL_law_1260 rfl (r32_c rfl) ?_
                                    obtain ⟨g390, h⟩ := gd h
                                    refine go_iadd (pc' := 1262) dL_law_1261 rfl g390 ?_
                                    obtain ⟨g391, h⟩ := gd h
                                    refine go_sald (pc' := 1263) dL_law_1262 rfl rfl g391 ?_
                                    refine go_aload_n (pc' := 1264) dL_law_1263 rfl rfl (Nat.le_of_ble_eq_true rfl) ?_
                                    refine go_iload (pc' := 1266) dL_law_1264 rfl rfl ?_
                                    refine go_iconst (pc' := 1267) dL_law_1266 rfl (r32_c rfl) ?_
                                    obtain ⟨g392, h⟩ := gd h
                                    refine go_iadd (pc' := 1268) dL_law_1267 rfl g392 ?_
                                    obtain ⟨g393, h⟩ := gd h
                                    refine go_sald (pc' := 1269) dL_law_1268 rfl rfl g393 ?_
                                    refine go_aload_n (pc' := 1270) dL_law_1269 rfl rfl (Nat.le_of_ble_eq_true rfl) ?_
                                    refine go_iload (pc' := 1272) dL_law_1270 rfl rfl ?_
                                    refine go_iconst (pc' := 1273) dL_law_1272 rfl (r32_c rfl) ?_
                                    obtain ⟨g394, h⟩ := gd h
                                    refine go_iadd (pc' := 1274) dL_law_1273 rfl g394 ?_
                                    obtain ⟨g395, h⟩ := gd h
                                    refine go_sald (pc' := 1275) dL_law_1274 rfl rfl g395 ?_
                                    refine go_aload_n (pc' := 1276) dL_law_1275 rfl rfl (Nat.le_of_ble_eq_true rfl) ?_
                                    refine go_iload (pc' := 1278) dL_law_1276 rfl rfl ?_
                                    refine go_iconst (pc' := 1279) dL_law_1278 rfl (r32_c rfl) ?_
                                    obtain ⟨g396, h⟩ := gd h
                                    refine go_iadd (pc' := 1280) dL_law_1279 rfl g396 ?_
                                    obtain ⟨g397, h⟩ := gd h
                                    refine go_sald (pc' := 1281) dL_law_1280 rfl rfl g397 ?_
                                    refine go_aload_n (pc' := 1282) dL_law_1281 rfl rfl (Nat.le_of_ble_eq_true rfl) ?_
                                    obtain ⟨v398, k399, h⟩ := bd h
                                    have k399 := l_L_cellAnew (d + 41) n4 e3 σ2 ((q.2 (Int.toNat (y1 + 1))).toInt) ((q.2 (Int.toNat (y1 + 2))).toInt) ((q.2 (Int.toNat (y1 + 3))).toInt) ((q.2 (Int.toNat (y1 + 4))).toInt) _ k399
                                    refine go_call (kc := 130) (Mc := mt130) (v := some (pvI v398.1)) (w' := (true, n4, v398.2.1, v398.2.2)) (pc' := 1285) (st' := [pvI v398.1]) [pvR 10 0 0, pvI ((q.2 (Int.toNat (y1 + 1))).toInt), pvI ((q.2 (Int.toNat (y1 + 2))).toInt), pvI ((q.2 (Int.toNat (y1 + 3))).toInt), pvI ((q.2 (Int.toNat (y1 + 4))).toInt), pvR 13 1 170] [] (Or.inr (Or.inl rfl)) dL_law_1282 rfl rm_12_143 mtE130 rfl rfl rfl (Nat.le_of_ble_eq_true rfl) (Or.inl (by decide)) k399 rfl ?_
                                    refine go_istore (L' := [some (pvS), some (pvR 10 0 0), some (pvR 11 0 129), some (pvR 13 1 170), some (pvI y1), some (pvI v398.1), none, none]) (pc' := 1287) dL_law_1285 rfl (Nat.le_of_ble_eq_true rfl) rfl ?_
                                    refine go_aload_n (pc' := 1288) dL_law_1287 rfl rfl (Nat.le_of_ble_eq_true rfl) ?_
                                    refine go_aload_n (pc' := 1289) dL_law_1288 rfl rfl (Nat.le_of_ble_eq_true rfl) ?_
                                    refine go_iload (pc' := 1291) dL_law_1289 rfl rfl ?_
                                    refine go_iconst (pc' := 1292) dL_law_1291 rfl (r32_c rfl) ?_
                                    obtain ⟨g400, h⟩ := gd h
                                    refine go_iadd (pc' := 1293) dL_law_1292 rfl g400 ?_
                                    obtain ⟨g401, h⟩ := gd h
                                    refine go_sald (pc' := 1294) dL_law_1293 rfl rfl g401 ?_
                                    refine go_aload_n (pc' := 1295) dL_law_1294 rfl rfl (Nat.le_of_ble_eq_true rfl) ?_
                                    refine go_iload (pc' := 1297) dL_law_1295 rfl rfl ?_
                                    refine go_iconst (pc' := 1298) dL_law_1297 rfl (r32_c rfl) ?_
                                    obtain ⟨g402, h⟩ := gd h
                                    refine go_iadd (pc' := 1299) dL_law_1298 rfl g402 ?_
                                    obtain ⟨g403, h⟩ := gd h
                                    refine go_sald (pc' := 1300) dL_law_1299 rfl rfl g403 ?_
                                    refine go_aload_n (pc' := 1301) dL_law_1300 rfl rfl (Nat.le_of_ble_eq_true rfl) ?_
                                    refine go_iload (pc' := 1303) dL_law_1301 rfl rfl ?_
                                    refine go_iconst (pc' := 1304) dL_law_1303 rfl (r32_c rfl) ?_
                                    obtain ⟨g404, h⟩ := gd h
                                    refine go_iadd (pc' := 1305) dL_law_1304 rfl g404 ?_
                                    obtain ⟨g405, h⟩ := gd h
                                    refine go_sald (pc' := 1306) dL_law_1305 rfl rfl g405 ?_
                                    refine go_aload_n (pc' := 1307) dL_law_1306 rfl rfl (Nat.le_of_ble_eq_true rfl) ?_
                                    refine go_iload (pc' := 1309) dL_law_1307 rfl rfl ?_
                                    refine go_iconst (pc' := 1310) dL_law_1309 rfl (r32_c rfl) ?_
                                    obtain ⟨g406, h⟩ := gd h
                                    refine go_iadd (pc' := 1311) dL_law_1310 rfl g406 ?_
                                    obtain ⟨g407, h⟩ := gd h
                                    refine go_sald (pc' := 1312) dL_law_1311 rfl rfl g407 ?_
                                    obtain ⟨v408, k409, h⟩ := bd h
                                    have k409 := l_M_cellAnew (d + 2) n4 v398.2.1 v398.2.2 ((q.2 (Int.toNat (y1 + 1))).toInt) ((q.2 (Int.toNat (y1 + 2))).toInt) ((q.2 (Int.toNat (y1 + 3))).toInt) ((q.2 (Int.toNat (y1 + 4))).toInt) _ k409
                                    refine go_call (kc := 219) (Mc := mt219) (v := some (pvL v408.1)) (w' := (true, n4, v398.2.1, v408.2)) (pc' := 1315) (st' := [pvL v408.1]) [pvR 11 0 129, pvI ((q.2 (Int.toNat (y1 + 1))).toInt), pvI ((q.2 (Int.toNat (y1 + 2))).toInt), pvI ((q.2 (Int.toNat (y1 + 3))).toInt), pvI ((q.2 (Int.toNat (y1 + 4))).toInt)] [] (Or.inl rfl) dL_law_1312 rfl rm_12_145 mtE219 rfl rfl rfl (Nat.le_of_ble_eq_true rfl) (Or.inr ⟨_, _, 129, rfl, Or.inl rfl⟩) k409 rfl ?_
                                    refine go_lstore (L' := [some (pvS), some (pvR 10 0 0), some (pvR 11 0 129), some (pvR 13 1 170), some (pvI y1), some (pvI v398.1), some (pvL v408.1), none]) (pc' := 1317) dL_law_1315 rfl (Nat.le_of_ble_eq_true rfl) rfl ?_
                                    refine go_aload_n (pc' := 1318) dL_law_1317 rfl rfl (Nat.le_of_ble_eq_true rfl) ?_
                                    obtain ⟨v410, k411, h⟩ := bd h
                                    have k411 := l_M_thrown (d + 283) n4 v398.2.1 v408.2 _ k411
                                    refine go_call (kc := 168) (Mc := mt168) (v := some (pvI v410)) (w' := (true, n4, v398.2.1, v408.2)) (pc' := 1321) (st' := [pvI v410]) [pvR 11 0 129] [] (Or.inl rfl) dL_law_1318 rfl rm_12_93 mtE168 rfl rfl rfl (Nat.le_of_ble_eq_true rfl) (Or.inr ⟨_, _, 129, rfl, Or.inl rfl⟩) k411 rfl ?_
                                    refine go_iload (pc' := 1323) dL_law_1321 rfl rfl ?_
                                    refine go_icmp_eq (t := 1328) (pc' := 1326) dL_law_1323 rfl rfl (fun c419 => ?_) (fun c419 => ?_)
                                    · rw [if_pos (show v410 = v398.1 from c419)] at h
                                      refine go_iload (pc' := 1330) dL_law_1328 rfl rfl ?_
                                      refine go_if_ne (t := 1344) (pc' := 1333) dL_law_1330 rfl rfl (fun c417 => ?_) (fun c417 => ?_)
                                      · rw [if_pos (show v398.1 ≠ 0 from c417)] at h
                                        refine go_goto (t := 1920) dL_law_1344 rfl ?_
                                        obtain ⟨g412, h⟩ := gd h
                                        refine go_iinc (L' := [some (pvS), some (pvR 10 0 0), some (pvR 11 0 129), some (pvR 13 1 170), some (pvI (y1 + 7)), some (pvI v398.1), some (pvL v408.1), none]) (pc' := 1923) dL_law_1920 rfl rfl g412 rfl ?_
                                        refine go_goto (t := 23) dL_law_1923 rfl ?_
                                        exact go_sub (ih (y1 + 7) v408.2 n4 v398.2.1 _ h) ⟨Or.inr rfl, Or.inr rfl, Or.inr rfl, Or.inr rfl, Or.inr rfl, Or.inl rfl, Or.inl rfl, Or.inr rfl, trivial⟩
                                      · rw [if_neg (show ¬ (v398.1 ≠ 0) from c417)] at h
                                        refine go_aload_n (pc' := 1334) dL_law_1333 rfl rfl (Nat.le_of_ble_eq_true rfl) ?_
                                        refine go_iconst (pc' := 1335) dL_law_1334 rfl (r32_c rfl) ?_
                                        obtain ⟨g413, h⟩ := gd h
                                        refine go_lald (pc' := 1336) dL_law_1335 rfl g413 ?_
                                        refine go_lload (pc' := 1338) dL_law_1336 rfl rfl ?_
                                        refine go_lcmp (pc' := 1339) dL_law_1338 rfl ?_
                                        refine go_if_eq (t := 1344) (pc' := 1342) dL_law_1339 rfl rfl (fun c416 => ?_) (fun c416 => ?_)
                                        · rw [if_pos (show (lcm (v408.2 170 0) v408.1) = 0 from c416)] at h
                                          refine go_goto (t := 1920) dL_law_1344 rfl ?_
                                          obtain ⟨g414, h⟩ := gd h
                                          refine go_iinc (L' := [some (pvS), some (pvR 10 0 0), some (pvR 11 0 129), some (pvR 13 1 170), some (pvI (y1 + 7)), some (pvI v398.1), some (pvL v408.1), none]) (pc' := 1923) dL_law_1920 rfl rfl g414 rfl ?_
                                          refine go_goto (t := 23) dL_law_1923 rfl ?_
                                          exact go_sub (ih (y1 + 7) v408.2 n4 v398.2.1 _ h) ⟨Or.inr rfl, Or.inr rfl, Or.inr rfl, Or.inr rfl, Or.inr rfl, Or.inl rfl, Or.inl rfl, Or.inr rfl, trivial⟩
                                        · rw [if_neg (show ¬ ((lcm (v408.2 170 0) v408.1) = 0) from c416)] at h
                                          refine go_iconst (pc' := 1343) dL_law_1342 rfl (r32_c rfl) ?_
                                          obtain ⟨g415, h⟩ := gd h
                                          cases h
                                          exact go_zret dL_law_1343 rfl g415 rfl
                                    · rw [if_neg (show ¬ (v410 = v398.1) from c419)] at h
                                      refine go_iconst (pc' := 1327) dL_law_1326 rfl (r32_c rfl) ?_
                                      obtain ⟨g418, h⟩ := gd h
                                      cases h
                                      exact go_zret dL_law_1327 rfl g418 rfl
                                  · rw [if_neg c420] at h
                                    by_cases c428 : (iand ((q.2 (Int.toNat y1)).toInt) 31) = 15
                                    · rw [if_pos c428] at h
                                      refine go_table (t := 1347) dL_law_40 (Or.inr ⟨by omega, by omega, by rw [c428]; rfl⟩) rfl ?_
                                      refine go_aload_n (pc' := 1348) dL_law_1347 rfl rfl (Nat.le_of_ble_eq_true rfl) ?_
                                      obtain ⟨v421, k422, h⟩ := bd h
                                      have k422 := l_C_kept (d + 283) n4 e3 σ2 _ k422
                                      refine go_call (kc := 15) (Mc := mt15) (v := some (pvI v421)) (w' := (true, n4, e3, σ2)) (pc' := 1351) (st' := [pvI v421]) [pvR 10 0 0] [] (Or.inl rfl) dL_law_1348 rfl rm_12_146 mtE15 rfl rfl rfl (Nat.le_of_ble_eq_true rfl) (Or.inr ⟨_, _, 0, rfl, Or.inl rfl⟩) k422 rfl ?_
                                      refine go_aload_n (pc' := 1352) dL_law_1351 rfl rfl (Nat.le_of_ble_eq_true rfl) ?_
                                      obtain ⟨v423, k424, h⟩ := bd h
                                      have k424 := l_M_kept (d + 282) n4 e3 σ2 _ k424
                                      refine go_call (kc := 221) (Mc := mt221) (v := some (pvI v423.1)) (w' := (true, n4, e3, v423.2)) (pc' := 1355) (st' := [pvI v423.1, pvI v421]) [pvR 11 0 129] [pvI v421] (Or.inl rfl) dL_law_1352 rfl rm_12_149 mtE221 rfl rfl rfl (Nat.le_of_ble_eq_true rfl) (Or.inr ⟨_, _, 129, rfl, Or.inl rfl⟩) k424 rfl ?_
                                      refine go_icmp_eq (t := 1920) (pc' := 1358) dL_law_1355 rfl rfl (fun c427 => ?_) (fun c427 => ?_)
                                      · rw [if_pos (show v421 = v423.1 from c427)] at h
                                        obtain ⟨g425, h⟩ := gd h
                                        refine go_iinc (L' := [some (pvS), some (pvR 10 0 0), some (pvR 11 0 129), some (pvR 13 1 170), some (pvI (y1 + 7)), none, none, none]) (pc' := 1923) dL_law_1920 rfl rfl g425 rfl ?_
                                        refine go_goto (t := 23) dL_law_1923 rfl ?_
                                        exact ih (y1 + 7) v423.2 n4 e3 _ h
                                      · rw [if_neg (show ¬ (v421 = v423.1) from c427)] at h
                                        refine go_iconst (pc' := 1359) dL_law_1358 rfl (r32_c rfl) ?_
                                        obtain ⟨g426, h⟩ := gd h
                                        cases h
                                        exact go_zret dL_law_1359 rfl g426 rfl
                                    · rw [if_neg c428] at h
                                      by_cases c436 : (iand ((q.2 (Int.toNat y1)).toInt) 31) = 16
                                      · rw [if_pos c436] at h
                                        refine go_table (t := 1360) dL_law_40 (Or.inr ⟨by omega, by omega, by rw [c436]; rfl⟩) rfl ?_
                                        refine go_aload_n (pc' := 1361) dL_law_1360 rfl rfl (Nat.le_of_ble_eq_true rfl) ?_
                                        obtain ⟨v429, k430, h⟩ := bd h
                                        have k430 := l_C_hits (d + 283) n4 e3 σ2 _ k430
                                        refine go_call (kc := 16) (Mc := mt16) (v := some (pvI v429)) (w' := (true, n4, e3, σ2)) (pc' := 1364) (st' := [pvI v429]) [pvR 10 0 0] [] (Or.inl rfl) dL_law_1361 rfl rm_12_150 mtE16 rfl rfl rfl (Nat.le_of_ble_eq_true rfl) (Or.inr ⟨_, _, 0, rfl, Or.inl rfl⟩) k430 rfl ?_
                                        refine go_aload_n (pc' := 1365) dL_law_1364 rfl rfl (Nat.le_of_ble_eq_true rfl) ?_
                                        obtain ⟨v431, k432, h⟩ := bd h
                                        have k432 := l_M_hits (d + 282) n4 e3 σ2 _ k432
                                        refine go_call (kc := 222) (Mc := mt222) (v := some (pvI v431.1)) (w' := (true, n4, e3, v431.2)) (pc' := 1368) (st' := [pvI v431.1, pvI v429]) [pvR 11 0 129] [pvI v429] (Or.inl rfl) dL_law_1365 rfl rm_12_153 mtE222 rfl rfl rfl (Nat.le_of_ble_eq_true rfl) (Or.inr ⟨_, _, 129, rfl, Or.inl rfl⟩) k432 rfl ?_
                                        refine go_icmp_eq (t := 1920) (pc' := 1371) dL_law_1368 rfl rfl (fun c435 => ?_) (fun c435 => ?_)
                                        · rw [if_pos (show v429 = v431.1 from c435)] at h
                                          obtain ⟨g433, h⟩ := gd h
                                          refine go_iinc (L' := [some (pvS), some (pvR 10 0 0), some (pvR 11 0 129), some (pvR 13 1 170), some (pvI (y1 + 7)), none, none, none]) (pc' := 1923) dL_law_1920 rfl rfl g433 rfl ?_
                                          refine go_goto (t := 23) dL_law_1923 rfl ?_
                                          exact ih (y1 + 7) v431.2 n4 e3 _ h
                                        · rw [if_neg (show ¬ (v429 = v431.1) from c435)] at h
                                          refine go_iconst (pc' := 1372) dL_law_1371 rfl (r32_c rfl) ?_
                                          obtain ⟨g434, h⟩ := gd h
                                          cases h
                                          exact go_zret dL_law_1372 rfl g434 rfl
                                      · rw [if_neg c436] at h
                                        by_cases c459 : (iand ((q.2 (Int.toNat y1)).toInt) 31) = 17
                                        · rw [if_pos c459] at h
                                          refine go_table (t := 1373) dL_law_40 (Or.inr ⟨by omega, by omega, by rw [c459]; rfl⟩) rfl ?_
                                          refine go_aload_n (pc' := 1374) dL_law_1373 rfl rfl (Nat.le_of_ble_eq_true rfl) ?_
                                          refine go_aload_n (pc' := 1375) dL_law_1374 rfl rfl (Nat.le_of_ble_eq_true rfl) ?_
                                          refine go_iload (pc' := 1377) dL_law_1375 rfl rfl ?_
                                          refine go_iconst (pc' := 1378) dL_law_1377 rfl (r32_c rfl) ?_
                                          obtain ⟨g437, h⟩ := gd h
                                          refine go_iadd (pc' := 1379) dL_law_1378 rfl g437 ?_
                                          obtain ⟨g438, h⟩ := gd h
                                          refine go_sald (pc' := 1380) dL_law_1379 rfl rfl g438 ?_
                                          refine go_aload_n (pc' := 1381) dL_law_1380 rfl rfl (Nat.le_of_ble_eq_true rfl) ?_
                                          refine go_iload (pc' := 1383) dL_law_1381 rfl rfl ?_
                                          refine go_iconst (pc' := 1384) dL_law_1383 rfl (r32_c rfl) ?_
                                          obtain ⟨g439, h⟩ := gd h
                                          refine go_iadd (pc' := 1385) dL_law_1384 rfl g439 ?_
                                          obtain ⟨g440, h⟩ := gd h
                                          refine go_sald (pc' := 1386) dL_law_1385 rfl rfl g440 ?_
                                          refine go_aload_n (pc' := 1387) dL_law_1386 rfl rfl (Nat.le_of_ble_eq_true rfl) ?_
                                          obtain ⟨v441, k442, h⟩ := bd h
                                          have k442 := l_L_at (d + 280) n4 e3 σ2 ((q.2 (Int.toNat (y1 + 1))).toInt) ((q.2 (Int.toNat (y1 + 2))).toInt) _ k442
                                          refine go_call (kc := 132) (Mc := mt132) (v := some (pvI v441.1)) (w' := (true, n4, v441.2.1, v441.2.2)) (pc' := 1390) (st' := [pvI v441.1]) [pvR 10 0 0, pvI ((q.2 (Int.toNat (y1 + 1))).toInt), pvI ((q.2 (Int.toNat (y1 + 2))).toInt), pvR 13 1 170] [] (Or.inr (Or.inl rfl)) dL_law_1387 rfl rm_12_154 mtE132 rfl rfl rfl (Nat.le_of_ble_eq_true rfl) (Or.inl (by decide)) k442 rfl ?_
                                          refine go_istore (L' := [some (pvS), some (pvR 10 0 0), some (pvR 11 0 129), some (pvR 13 1 170), some (pvI y1), some (pvI v441.1), none, none]) (pc' := 1392) dL_law_1390 rfl (Nat.le_of_ble_eq_true rfl) rfl ?_
                                          refine go_aload_n (pc' := 1393) dL_law_1392 rfl rfl (Nat.le_of_ble_eq_true rfl) ?_
                                          refine go_aload_n (pc' := 1394) dL_law_1393 rfl rfl (Nat.le_of_ble_eq_true rfl) ?_
                                          refine go_iload (pc' := 1396) dL_law_1394 rfl rfl ?_
                                          refine go_iconst (pc' := 1397) dL_law_1396 rfl (r32_c rfl) ?_
                                          obtain ⟨g443, h⟩ := gd h
                                          refine go_iadd (pc' := 1398) dL_law_1397 rfl g443 ?_
                                          obtain ⟨g444, h⟩ := gd h
                                          refine go_sald (pc' := 1399) dL_law_1398 rfl rfl g444 ?_
                                          refine go_aload_n (pc' := 1400) dL_law_1399 rfl rfl (Nat.le_of_ble_eq_true rfl) ?_
                                          refine go_iload (pc' := 1402) dL_law_1400 rfl rfl ?_
                                          refine go_iconst (pc' := 1403) dL_law_1402 rfl (r32_c rfl) ?_
                                          obtain ⟨g445, h⟩ := gd h
                                          refine go_iadd (pc' := 1404) dL_law_1403 rfl g445 ?_
                                          obtain ⟨g446, h⟩ := gd h
                                          refine go_sald (pc' := 1405) dL_law_1404 rfl rfl g446 ?_
                                          obtain ⟨v447, k448, h⟩ := bd h
                                          have k448 := l_M_at (d + 280) n4 v441.2.1 v441.2.2 ((q.2 (Int.toNat (y1 + 1))).toInt) ((q.2 (Int.toNat (y1 + 2))).toInt) _ k448
                                          refine go_call (kc := 223) (Mc := mt223) (v := some (pvI v447.1)) (w' := (true, n4, v441.2.1, v447.2)) (pc' := 1408) (st' := [pvI v447.1]) [pvR 11 0 129, pvI ((q.2 (Int.toNat (y1 + 1))).toInt), pvI ((q.2 (Int.toNat (y1 + 2))).toInt)] [] (Or.inl rfl) dL_law_1405 rfl rm_12_156 mtE223 rfl rfl rfl (Nat.le_of_ble_eq_true rfl) (Or.inr ⟨_, _, 129, rfl, Or.inl rfl⟩) k448 rfl ?_
                                          refine go_istore (L' := [some (pvS), some (pvR 10 0 0), some (pvR 11 0 129), some (pvR 13 1 170), some (pvI y1), some (pvI v441.1), some (pvI v447.1), none]) (pc' := 1410) dL_law_1408 rfl (Nat.le_of_ble_eq_true rfl) rfl ?_
                                          refine go_aload_n (pc' := 1411) dL_law_1410 rfl rfl (Nat.le_of_ble_eq_true rfl) ?_
                                          obtain ⟨v449, k450, h⟩ := bd h
                                          have k450 := l_M_thrown (d + 283) n4 v441.2.1 v447.2 _ k450
                                          refine go_call (kc := 168) (Mc := mt168) (v := some (pvI v449)) (w' := (true, n4, v441.2.1, v447.2)) (pc' := 1414) (st' := [pvI v449]) [pvR 11 0 129] [] (Or.inl rfl) dL_law_1411 rfl rm_12_93 mtE168 rfl rfl rfl (Nat.le_of_ble_eq_true rfl) (Or.inr ⟨_, _, 129, rfl, Or.inl rfl⟩) k450 rfl ?_
                                          refine go_iload (pc' := 1416) dL_law_1414 rfl rfl ?_
                                          refine go_icmp_eq (t := 1421) (pc' := 1419) dL_law_1416 rfl rfl (fun c458 => ?_) (fun c458 => ?_)
                                          · rw [if_pos (show v449 = v441.1 from c458)] at h
                                            refine go_iload (pc' := 1423) dL_law_1421 rfl rfl ?_
                                            refine go_if_ne (t := 1438) (pc' := 1426) dL_law_1423 rfl rfl (fun c456 => ?_) (fun c456 => ?_)
                                            · rw [if_pos (show v441.1 ≠ 0 from c456)] at h
                                              refine go_goto (t := 1920) dL_law_1438 rfl ?_
                                              obtain ⟨g451, h⟩ := gd h
                                              refine go_iinc (L' := [some (pvS), some (pvR 10 0 0), some (pvR 11 0 129), some (pvR 13 1 170), some (pvI (y1 + 7)), some (pvI v441.1), some (pvI v447.1), none]) (pc' := 1923) dL_law_1920 rfl rfl g451 rfl ?_
                                              refine go_goto (t := 23) dL_law_1923 rfl ?_
                                              exact go_sub (ih (y1 + 7) v447.2 n4 v441.2.1 _ h) ⟨Or.inr rfl, Or.inr rfl, Or.inr rfl, Or.inr rfl, Or.inr rfl, Or.inl rfl, Or.inl rfl, Or.inr rfl, trivial⟩
                                            · rw [if_neg (show ¬ (v441.1 ≠ 0) from c456)] at h
                                              refine go_aload_n (pc' := 1427) dL_law_1426 rfl rfl (Nat.le_of_ble_eq_true rfl) ?_
                                              refine go_iconst (pc' := 1428) dL_law_1427 rfl (r32_c rfl) ?_
                                              obtain ⟨g452, h⟩ := gd h
                                              refine go_lald (pc' := 1429) dL_law_1428 rfl g452 ?_
                                              refine go_iload (pc' := 1431) dL_law_1429 rfl rfl ?_
                                              refine go_i2l (pc' := 1432) dL_law_1431 rfl ?_
                                              refine go_lcmp (pc' := 1433) dL_law_1432 rfl ?_
                                              refine go_if_eq (t := 1438) (pc' := 1436) dL_law_1433 rfl rfl (fun c455 => ?_) (fun c455 => ?_)
                                              · rw [if_pos (show (lcm (v447.2 170 0) v447.1) = 0 from c455)] at h
                                                refine go_goto (t := 1920) dL_law_1438 rfl ?_
                                                obtain ⟨g453, h⟩ := gd h
                                                refine go_iinc (L' := [some (pvS), some (pvR 10 0 0), some (pvR 11 0 129), some (pvR 13 1 170), some (pvI (y1 + 7)), some (pvI v441.1), some (pvI v447.1), none]) (pc' := 1923) dL_law_1920 rfl rfl g453 rfl ?_
                                                refine go_goto (t := 23) dL_law_1923 rfl ?_
                                                exact go_sub (ih (y1 + 7) v447.2 n4 v441.2.1 _ h) ⟨Or.inr rfl, Or.inr rfl, Or.inr rfl, Or.inr rfl, Or.inr rfl, Or.inl rfl, Or.inl rfl, Or.inr rfl, trivial⟩
                                              · rw [if_neg (show ¬ ((lcm (v447.2 170 0) v447.1) = 0) from c455)] at h
                                                refine go_iconst (pc' := 1437) dL_law_1436 rfl (r32_c rfl) ?_
                                                obtain ⟨g454, h⟩ := gd h
                                                cases h
                                                exact go_zret dL_law_1437 rfl g454 rfl
                                          · rw [if_neg (show ¬ (v449 = v441.1) from c458)] at h
                                            refine go_iconst (pc' := 1420) dL_law_1419 rfl (r32_c rfl) ?_
                                            obtain ⟨g457, h⟩ := gd h
                                            cases h
                                            exact go_zret dL_law_1420 rfl g457 rfl
                                        · rw [if_neg c459] at h
                                          by_cases c494 : (iand ((q.2 (Int.toNat y1)).toInt) 31) = 18
                                          · rw [if_pos c494] at h
                                            refine go_table (t := 1441) dL_law_40 (Or.inr ⟨by omega, by omega, by rw [c494]; rfl⟩) rfl ?_
                                            refine go_aload_n (pc' := 1442) dL_law_1441 rfl rfl (Nat.le_of_ble_eq_true rfl) ?_
                                            refine go_aload_n (pc' := 1443) dL_law_1442 rfl rfl (Nat.le_of_ble_eq_true rfl) ?_
                                            refine go_iload (pc' := 1445) dL_law_1443 rfl rfl ?_
                                            refine go_iconst (pc' := 1446) dL_law_1445 rfl (r32_c rfl) ?_
                                            obtain ⟨g460, h⟩ := gd h
                                            refine go_iadd (pc' := 1447) dL_law_1446 rfl g460 ?_
                                            obtain ⟨g461, h⟩ := gd h
                                            refine go_sald (pc' := 1448) dL_law_1447 rfl rfl g461 ?_
                                            refine go_aload_n (pc' := 1449) dL_law_1448 rfl rfl (Nat.le_of_ble_eq_true rfl) ?_
                                            refine go_iload (pc' := 1451) dL_law_1449 rfl rfl ?_
                                            refine go_iconst (pc' := 1452) dL_law_1451 rfl (r32_c rfl) ?_
                                            obtain ⟨g462, h⟩ := gd h
                                            refine go_iadd (pc' := 1453) dL_law_1452 rfl g462 ?_
                                            obtain ⟨g463, h⟩ := gd h
                                            refine go_sald (pc' := 1454) dL_law_1453 rfl rfl g463 ?_
                                            refine go_aload_n (pc' := 1455) dL_law_1454 rfl rfl (Nat.le_of_ble_eq_true rfl) ?_
                                            refine go_iload (pc' := 1457) dL_law_1455 rfl rfl ?_
                                            refine go_iconst (pc' := 1458) dL_law_1457 rfl (r32_c rfl) ?_
                                            obtain ⟨g464, h⟩ := gd h
                                            refine go_iadd (pc' := 1459) dL_law_1458 rfl g464 ?_
                                            obtain ⟨g465, h⟩ := gd h
                                            refine go_sald (pc' := 1460) dL_law_1459 rfl rfl g465 ?_
                                            refine go_aload_n (pc' := 1461) dL_law_1460 rfl rfl (Nat.le_of_ble_eq_true rfl) ?_
                                            refine go_iload (pc' := 1463) dL_law_1461 rfl rfl ?_
                                            refine go_iconst (pc' := 1464) dL_law_1463 rfl (r32_c rfl) ?_
                                            obtain ⟨g466, h⟩ := gd h
                                            refine go_iadd (pc' := 1465) dL_law_1464 rfl g466 ?_
                                            obtain ⟨g467, h⟩ := gd h
                                            refine go_sald (pc' := 1466) dL_law_1465 rfl rfl g467 ?_
                                            refine go_aload_n (pc' := 1467) dL_law_1466 rfl rfl (Nat.le_of_ble_eq_true rfl) ?_
                                            refine go_iload (pc' := 1469) dL_law_1467 rfl rfl ?_
                                            refine go_iconst (pc' := 1470) dL_law_1469 rfl (r32_c rfl) ?_
                                            obtain ⟨g468, h⟩ := gd h
                                            refine go_iadd (pc' := 1471) dL_law_1470 rfl g468 ?_
                                            obtain ⟨g469, h⟩ := gd h
                                            refine go_sald (pc' := 1472) dL_law_1471 rfl rfl g469 ?_
                                            refine go_aload_n (pc' := 1473) dL_law_1472 rfl rfl (Nat.le_of_ble_eq_true rfl) ?_
                                            obtain ⟨v470, k471, h⟩ := bd h
                                            have k471 := l_L_pick (d + 41) n4 e3 σ2 ((q.2 (Int.toNat (y1 + 1))).toInt) ((q.2 (Int.toNat (y1 + 2))).toInt) ((q.2 (Int.toNat (y1 + 3))).toInt) ((q.2 (Int.toNat (y1 + 4))).toInt) ((q.2 (Int.toNat (y1 + 5))).toInt) _ k471
                                            refine go_call (kc := 134) (Mc := mt134) (v := some (pvI v470.1)) (w' := (true, n4, v470.2.1, v470.2.2)) (pc' := 1476) (st' := [pvI v470.1]) [pvR 10 0 0, pvI ((q.2 (Int.toNat (y1 + 1))).toInt), pvI ((q.2 (Int.toNat (y1 + 2))).toInt), pvI ((q.2 (Int.toNat (y1 + 3))).toInt), pvI ((q.2 (Int.toNat (y1 + 4))).toInt), pvI ((q.2 (Int.toNat (y1 + 5))).toInt), pvR 13 1 170] [] (Or.inr (Or.inl rfl)) dL_law_1473 rfl rm_12_157 mtE134 rfl rfl rfl (Nat.le_of_ble_eq_true rfl) (Or.inl (by decide)) k471 rfl ?_
                                            refine go_istore (L' := [some (pvS), some (pvR 10 0 0), some (pvR 11 0 129), some (pvR 13 1 170), some (pvI y1), some (pvI v470.1), none, none]) (pc' := 1478) dL_law_1476 rfl (Nat.le_of_ble_eq_true rfl) rfl ?_
                                            refine go_aload_n (pc' := 1479) dL_law_1478 rfl rfl (Nat.le_of_ble_eq_true rfl) ?_
                                            refine go_aload_n (pc' := 1480) dL_law_1479 rfl rfl (Nat.le_of_ble_eq_true rfl) ?_
                                            refine go_iload (pc' := 1482) dL_law_1480 rfl rfl ?_
                                            refine go_iconst (pc' := 1483) dL_law_1482 rfl (r32_c rfl) ?_
                                            obtain ⟨g472, h⟩ := gd h
                                            refine go_iadd (pc' := 1484) dL_law_1483 rfl g472 ?_
                                            obtain ⟨g473, h⟩ := gd h
                                            refine go_sald (pc' := 1485) dL_law_1484 rfl rfl g473 ?_
                                            refine go_aload_n (pc' := 1486) dL_law_1485 rfl rfl (Nat.le_of_ble_eq_true rfl) ?_
                                            refine go_iload (pc' := 1488) dL_law_1486 rfl rfl ?_
                                            refine go_iconst (pc' := 1489) dL_law_1488 rfl (r32_c rfl) ?_
                                            obtain ⟨g474, h⟩ := gd h
                                            refine go_iadd (pc' := 1490) dL_law_1489 rfl g474 ?_
                                            obtain ⟨g475, h⟩ := gd h
                                            refine go_sald (pc' := 1491) dL_law_1490 rfl rfl g475 ?_
                                            refine go_aload_n (pc' := 1492) dL_law_1491 rfl rfl (Nat.le_of_ble_eq_true rfl) ?_
                                            refine go_iload (pc' := 1494) dL_law_1492 rfl rfl ?_
                                            refine go_iconst (pc' := 1495) dL_law_1494 rfl (r32_c rfl) ?_
                                            obtain ⟨g476, h⟩ := gd h
                                            refine go_iadd (pc' := 1496) dL_law_1495 rfl g476 ?_
                                            obtain ⟨g477, h⟩ := gd h
                                            refine go_sald (pc' := 1497) dL_law_1496 rfl rfl g477 ?_
                                            refine go_aload_n (pc' := 1498) dL_law_1497 rfl rfl (Nat.le_of_ble_eq_true rfl) ?_
                                            refine go_iload (pc' := 1500) dL_law_1498 rfl rfl ?_
                                            refine go_iconst (pc' := 1501) dL_law_1500 rfl (r32_c rfl) ?_
                                            obtain ⟨g478, h⟩ := gd h
                                            refine go_iadd (pc' := 1502) dL_law_1501 rfl g478 ?_
                                            obtain ⟨g479, h⟩ := gd h
                                            refine go_sald (pc' := 1503) dL_law_1502 rfl rfl g479 ?_
                                            refine go_aload_n (pc' := 1504) dL_law_1503 rfl rfl (Nat.le_of_ble_eq_true rfl) ?_
                                            refine go_iload (pc' := 1506) dL_law_1504 rfl rfl ?_
                                            refine go_iconst (pc' := 1507) dL_law_1506 rfl (r32_c rfl) ?_
                                            obtain ⟨g480, h⟩ := gd h
                                            refine go_iadd (pc' := 1508) dL_law_1507 rfl g480 ?_
                                            obtain ⟨g481, h⟩ := gd h
                                            refine go_sald (pc' := 1509) dL_law_1508 rfl rfl g481 ?_
                                            obtain ⟨v482, k483, h⟩ := bd h
                                            have k483 := l_M_pick (d + 0) n4 v470.2.1 v470.2.2 ((q.2 (Int.toNat (y1 + 1))).toInt) ((q.2 (Int.toNat (y1 + 2))).toInt) ((q.2 (Int.toNat (y1 + 3))).toInt) ((q.2 (Int.toNat (y1 + 4))).toInt) ((q.2 (Int.toNat (y1 + 5))).toInt) _ k483
                                            refine go_call (kc := 224) (Mc := mt224) (v := some (pvI v482.1)) (w' := (true, n4, v470.2.1, v482.2)) (pc' := 1512) (st' := [pvI v482.1]) [pvR 11 0 129, pvI ((q.2 (Int.toNat (y1 + 1))).toInt), pvI ((q.2 (Int.toNat (y1 + 2))).toInt), pvI ((q.2 (Int.toNat (y1 + 3))).toInt), pvI ((q.2 (Int.toNat (y1 + 4))).toInt), pvI ((q.2 (Int.toNat (y1 + 5))).toInt)] [] (Or.inl rfl) dL_law_1509 rfl rm_12_159 mtE224 rfl rfl rfl (Nat.le_of_ble_eq_true rfl) (Or.inr ⟨_, _, 129, rfl, Or.inl rfl⟩) k483 rfl ?_
                                            refine go_istore (L' := [some (pvS), some (pvR 10 0 0), some (pvR 11 0 129), some (pvR 13 1 170), some (pvI y1), some (pvI v470.1), some (pvI v482.1), none]) (pc' := 1514) dL_law_1512 rfl (Nat.le_of_ble_eq_true rfl) rfl ?_
                                            refine go_aload_n (pc' := 1515) dL_law_1514 rfl rfl (Nat.le_of_ble_eq_true rfl) ?_
                                            obtain ⟨v484, k485, h⟩ := bd h
                                            have k485 := l_M_thrown (d + 283) n4 v470.2.1 v482.2 _ k485
                                            refine go_call (kc := 168) (Mc := mt168) (v := some (pvI v484)) (w' := (true, n4, v470.2.1, v482.2)) (pc' := 1518) (st' := [pvI v484]) [pvR 11 0 129] [] (Or.inl rfl) dL_law_1515 rfl rm_12_93 mtE168 rfl rfl rfl (Nat.le_of_ble_eq_true rfl) (Or.inr ⟨_, _, 129, rfl, Or.inl rfl⟩) k485 rfl ?_
                                            refine go_iload (pc' := 1520) dL_law_1518 rfl rfl ?_
                                            refine go_icmp_eq (t := 1525) (pc' := 1523) dL_law_1520 rfl rfl (fun c493 => ?_) (fun c493 => ?_)
                                            · rw [if_pos (show v484 = v470.1 from c493)] at h
                                              refine go_iload (pc' := 1527) dL_law_1525 rfl rfl ?_
                                              refine go_if_ne (t := 1542) (pc' := 1530) dL_law_1527 rfl rfl (fun c491 => ?_) (fun c491 => ?_)
                                              · rw [if_pos (show v470.1 ≠ 0 from c491)] at h
                                                refine go_goto (t := 1920) dL_law_1542 rfl ?_
                                                obtain ⟨g486, h⟩ := gd h
                                                refine go_iinc (L' := [some (pvS), some (pvR 10 0 0), some (pvR 11 0 129), some (pvR 13 1 170), some (pvI (y1 + 7)), some (pvI v470.1), some (pvI v482.1), none]) (pc' := 1923) dL_law_1920 rfl rfl g486 rfl ?_
                                                refine go_goto (t := 23) dL_law_1923 rfl ?_
                                                exact go_sub (ih (y1 + 7) v482.2 n4 v470.2.1 _ h) ⟨Or.inr rfl, Or.inr rfl, Or.inr rfl, Or.inr rfl, Or.inr rfl, Or.inl rfl, Or.inl rfl, Or.inr rfl, trivial⟩
                                              · rw [if_neg (show ¬ (v470.1 ≠ 0) from c491)] at h
                                                refine go_aload_n (pc' := 1531) dL_law_1530 rfl rfl (Nat.le_of_ble_eq_true rfl) ?_
                                                refine go_iconst (pc' := 1532) dL_law_1531 rfl (r32_c rfl) ?_
                                                obtain ⟨g487, h⟩ := gd h
                                                refine go_lald (pc' := 1533) dL_law_1532 rfl g487 ?_
                                                refine go_iload (pc' := 1535) dL_law_1533 rfl rfl ?_
                                                refine go_i2l (pc' := 1536) dL_law_1535 rfl ?_
                                                refine go_lcmp (pc' := 1537) dL_law_1536 rfl ?_
                                                refine go_if_eq (t := 1542) (pc' := 1540) dL_law_1537 rfl rfl (fun c490 => ?_) (fun c490 => ?_)
                                                · rw [if_pos (show (lcm (v482.2 170 0) v482.1) = 0 from c490)] at h
                                                  refine go_goto (t := 1920) dL_law_1542 rfl ?_
                                                  obtain ⟨g488, h⟩ := gd h
                                                  refine go_iinc (L' := [some (pvS), some (pvR 10 0 0), some (pvR 11 0 129), some (pvR 13 1 170), some (pvI (y1 + 7)), some (pvI v470.1), some (pvI v482.1), none]) (pc' := 1923) dL_law_1920 rfl rfl g488 rfl ?_
                                                  refine go_goto (t := 23) dL_law_1923 rfl ?_
                                                  exact go_sub (ih (y1 + 7) v482.2 n4 v470.2.1 _ h) ⟨Or.inr rfl, Or.inr rfl, Or.inr rfl, Or.inr rfl, Or.inr rfl, Or.inl rfl, Or.inl rfl, Or.inr rfl, trivial⟩
                                                · rw [if_neg (show ¬ ((lcm (v482.2 170 0) v482.1) = 0) from c490)] at h
                                                  refine go_iconst (pc' := 1541) dL_law_1540 rfl (r32_c rfl) ?_
                                                  obtain ⟨g489, h⟩ := gd h
                                                  cases h
                                                  exact go_zret dL_law_1541 rfl g489 rfl
                                            · rw [if_neg (show ¬ (v484 = v470.1) from c493)] at h
                                              refine go_iconst (pc' := 1524) dL_law_1523 rfl (r32_c rfl) ?_
                                              obtain ⟨g492, h⟩ := gd h
                                              cases h
                                              exact go_zret dL_law_1524 rfl g492 rfl
                                          · rw [if_neg c494] at h
                                            by_cases c517 : (iand ((q.2 (Int.toNat y1)).toInt) 31) = 19
                                            · rw [if_pos c517] at h
                                              refine go_table (t := 1545) dL_law_40 (Or.inr ⟨by omega, by omega, by rw [c517]; rfl⟩) rfl ?_
                                              refine go_aload_n (pc' := 1546) dL_law_1545 rfl rfl (Nat.le_of_ble_eq_true rfl) ?_
                                              refine go_aload_n (pc' := 1547) dL_law_1546 rfl rfl (Nat.le_of_ble_eq_true rfl) ?_
                                              refine go_iload (pc' := 1549) dL_law_1547 rfl rfl ?_
                                              refine go_iconst (pc' := 1550) dL_law_1549 rfl (r32_c rfl) ?_
                                              obtain ⟨g495, h⟩ := gd h
                                              refine go_iadd (pc' := 1551) dL_law_1550 rfl g495 ?_
                                              obtain ⟨g496, h⟩ := gd h
                                              refine go_sald (pc' := 1552) dL_law_1551 rfl rfl g496 ?_
                                              refine go_aload_n (pc' := 1553) dL_law_1552 rfl rfl (Nat.le_of_ble_eq_true rfl) ?_
                                              refine go_iload (pc' := 1555) dL_law_1553 rfl rfl ?_
                                              refine go_iconst (pc' := 1556) dL_law_1555 rfl (r32_c rfl) ?_
                                              obtain ⟨g497, h⟩ := gd h
                                              refine go_iadd (pc' := 1557) dL_law_1556 rfl g497 ?_
                                              obtain ⟨g498, h⟩ := gd h
                                              refine go_sald (pc' := 1558) dL_law_1557 rfl rfl g498 ?_
                                              refine go_aload_n (pc' := 1559) dL_law_1558 rfl rfl (Nat.le_of_ble_eq_true rfl) ?_
                                              obtain ⟨v499, k500, h⟩ := bd h
                                              have k500 := l_L_picked (d + 280) n4 e3 σ2 ((q.2 (Int.toNat (y1 + 1))).toInt) ((q.2 (Int.toNat (y1 + 2))).toInt) _ k500
                                              refine go_call (kc := 143) (Mc := mt143) (v := some (pvI v499.1)) (w' := (true, n4, v499.2.1, v499.2.2)) (pc' := 1562) (st' := [pvI v499.1]) [pvR 10 0 0, pvI ((q.2 (Int.toNat (y1 + 1))).toInt), pvI ((q.2 (Int.toNat (y1 + 2))).toInt), pvR 13 1 170] [] (Or.inr (Or.inl rfl)) dL_law_1559 rfl rm_12_160 mtE143 rfl rfl rfl (Nat.le_of_ble_eq_true rfl) (Or.inl (by decide)) k500 rfl ?_
                                              refine go_istore (L' := [some (pvS), some (pvR 10 0 0), some (pvR 11 0 129), some (pvR 13 1 170), some (pvI y1), some (pvI v499.1), none, none]) (pc' := 1564) dL_law_1562 rfl (Nat.le_of_ble_eq_true rfl) rfl ?_
                                              refine go_aload_n (pc' := 1565) dL_law_1564 rfl rfl (Nat.le_of_ble_eq_true rfl) ?_
                                              refine go_aload_n (pc' := 1566) dL_law_1565 rfl rfl (Nat.le_of_ble_eq_true rfl) ?_
                                              refine go_iload (pc' := 1568) dL_law_1566 rfl rfl ?_
                                              refine go_iconst (pc' := 1569) dL_law_1568 rfl (r32_c rfl) ?_
                                              obtain ⟨g501, h⟩ := gd h
                                              refine go_iadd (pc' := 1570) dL_law_1569 rfl g501 ?_
                                              obtain ⟨g502, h⟩ := gd h
                                              refine go_sald (pc' := 1571) dL_law_1570 rfl rfl g502 ?_
                                              refine go_aload_n (pc' := 1572) dL_law_1571 rfl rfl (Nat.le_of_ble_eq_true rfl) ?_
                                              refine go_iload (pc' := 1574) dL_law_1572 rfl rfl ?_
                                              refine go_iconst (pc' := 1575) dL_law_1574 rfl (r32_c rfl) ?_
                                              obtain ⟨g503, h⟩ := gd h
                                              refine go_iadd (pc' := 1576) dL_law_1575 rfl g503 ?_
                                              obtain ⟨g504, h⟩ := gd h
                                              refine go_sald (pc' := 1577) dL_law_1576 rfl rfl g504 ?_
                                              obtain ⟨v505, k506, h⟩ := bd h
                                              have k506 := l_M_picked (d + 281) n4 v499.2.1 v499.2.2 ((q.2 (Int.toNat (y1 + 1))).toInt) ((q.2 (Int.toNat (y1 + 2))).toInt) _ k506
                                              refine go_call (kc := 228) (Mc := mt228) (v := some (pvI v505.1)) (w' := (true, n4, v499.2.1, v505.2)) (pc' := 1580) (st' := [pvI v505.1]) [pvR 11 0 129, pvI ((q.2 (Int.toNat (y1 + 1))).toInt), pvI ((q.2 (Int.toNat (y1 + 2))).toInt)] [] (Or.inl rfl) dL_law_1577 rfl rm_12_162 mtE228 rfl rfl rfl (Nat.le_of_ble_eq_true rfl) (Or.inr ⟨_, _, 129, rfl, Or.inl rfl⟩) k506 rfl ?_
                                              refine go_istore (L' := [some (pvS), some (pvR 10 0 0), some (pvR 11 0 129), some (pvR 13 1 170), some (pvI y1), some (pvI v499.1), some (pvI v505.1), none]) (pc' := 1582) dL_law_1580 rfl (Nat.le_of_ble_eq_true rfl) rfl ?_
                                              refine go_aload_n (pc' := 1583) dL_law_1582 rfl rfl (Nat.le_of_ble_eq_true rfl) ?_
                                              obtain ⟨v507, k508, h⟩ := bd h
                                              have k508 := l_M_thrown (d + 283) n4 v499.2.1 v505.2 _ k508
                                              refine go_call (kc := 168) (Mc := mt168) (v := some (pvI v507)) (w' := (true, n4, v499.2.1, v505.2)) (pc' := 1586) (st' := [pvI v507]) [pvR 11 0 129] [] (Or.inl rfl) dL_law_1583 rfl rm_12_93 mtE168 rfl rfl rfl (Nat.le_of_ble_eq_true rfl) (Or.inr ⟨_, _, 129, rfl, Or.inl rfl⟩) k508 rfl ?_
                                              refine go_iload (pc' := 1588) dL_law_1586 rfl rfl ?_
                                              refine go_icmp_eq (t := 1593) (pc' := 1591) dL_law_1588 rfl rfl (fun c516 => ?_) (fun c516 => ?_)
                                              · rw [if_pos (show v507 = v499.1 from c516)] at h
                                                refine go_iload (pc' := 1595) dL_law_1593 rfl rfl ?_
                                                refine go_if_ne (t := 1610) (pc' := 1598) dL_law_1595 rfl rfl (fun c514 => ?_) (fun c514 => ?_)
                                                · rw [if_pos (show v499.1 ≠ 0 from c514)] at h
                                                  refine go_goto (t := 1920) dL_law_1610 rfl ?_
                                                  obtain ⟨g509, h⟩ := gd h
                                                  refine go_iinc (L' := [some (pvS), some (pvR 10 0 0), some (pvR 11 0 129), some (pvR 13 1 170), some (pvI (y1 + 7)), some (pvI v499.1), some (pvI v505.1), none]) (pc' := 1923) dL_law_1920 rfl rfl g509 rfl ?_
                                                  refine go_goto (t := 23) dL_law_1923 rfl ?_
                                                  exact go_sub (ih (y1 + 7) v505.2 n4 v499.2.1 _ h) ⟨Or.inr rfl, Or.inr rfl, Or.inr rfl, Or.inr rfl, Or.inr rfl, Or.inl rfl, Or.inl rfl, Or.inr rfl, trivial⟩
                                                · rw [if_neg (show ¬ (v499.1 ≠ 0) from c514)] at h
                                                  refine go_aload_n (pc' := 1599) dL_law_1598 rfl rfl (Nat.le_of_ble_eq_true rfl) ?_
                                                  refine go_iconst (pc' := 1600) dL_law_1599 rfl (r32_c rfl) ?_
                                                  obtain ⟨g510, h⟩ := gd h
                                                  refine go_lald (pc' := 1601) dL_law_1600 rfl g510 ?_
                                                  refine go_iload (pc' := 1603) dL_law_1601 rfl rfl ?_
                                                  refine go_i2l (pc' := 1604) dL_law_1603 rfl ?_
                                                  refine go_lcmp (pc' := 1605) dL_law_1604 rfl ?_
                                                  refine go_if_eq (t := 1610) (pc' := 1608) dL_law_1605 rfl rfl (fun c513 => ?_) (fun c513 => ?_)
                                                  · rw [if_pos (show (lcm (v505.2 170 0) v505.1) = 0 from c513)] at h
                                                    refine go_goto (t := 1920) dL_law_1610 rfl ?_
                                                    obtain ⟨g511, h⟩ := gd h
                                                    refine go_iinc (L' := [some (pvS), some (pvR 10 0 0), some (pvR 11 0 129), some (pvR 13 1 170), some (pvI (y1 + 7)), some (pvI v499.1), some (pvI v505.1), none]) (pc' := 1923) dL_law_1920 rfl rfl g511 rfl ?_
                                                    refine go_goto (t := 23) dL_law_1923 rfl ?_
                                                    exact go_sub (ih (y1 + 7) v505.2 n4 v499.2.1 _ h) ⟨Or.inr rfl, Or.inr rfl, Or.inr rfl, Or.inr rfl, Or.inr rfl, Or.inl rfl, Or.inl rfl, Or.inr rfl, trivial⟩
                                                  · rw [if_neg (show ¬ ((lcm (v505.2 170 0) v505.1) = 0) from c513)] at h
                                                    refine go_iconst (pc' := 1609) dL_law_1608 rfl (r32_c rfl) ?_
                                                    obtain ⟨g512, h⟩ := gd h
                                                    cases h
                                                    exact go_zret dL_law_1609 rfl g512 rfl
                                              · rw [if_neg (show ¬ (v507 = v499.1) from c516)] at h
                                                refine go_iconst (pc' := 1592) dL_law_1591 rfl (r32_c rfl) ?_
                                                obtain ⟨g515, h⟩ := gd h
                                                cases h
                                                exact go_zret dL_law_1592 rfl g515 rfl
                                            · rw [if_neg c517] at h
                                              by_cases c544 : (iand ((q.2 (Int.toNat y1)).toInt) 31) = 20
                                              · rw [if_pos c544] at h
                                                refine go_table (t := 1613) dL_law_40 (Or.inr ⟨by omega, by omega, by rw [c544]; rfl⟩) rfl ?_
                                                refine go_aload_n (pc' := 1614) dL_law_1613 rfl rfl (Nat.le_of_ble_eq_true rfl) ?_
                                                refine go_aload_n (pc' := 1615) dL_law_1614 rfl rfl (Nat.le_of_ble_eq_true rfl) ?_
                                                refine go_iload (pc' := 1617) dL_law_1615 rfl rfl ?_
                                                refine go_iconst (pc' := 1618) dL_law_1617 rfl (r32_c rfl) ?_
                                                obtain ⟨g518, h⟩ := gd h
                                                refine go_iadd (pc' := 1619) dL_law_1618 rfl g518 ?_
                                                obtain ⟨g519, h⟩ := gd h
                                                refine go_sald (pc' := 1620) dL_law_1619 rfl rfl g519 ?_
                                                refine go_aload_n (pc' := 1621) dL_law_1620 rfl rfl (Nat.le_of_ble_eq_true rfl) ?_
                                                refine go_iload (pc' := 1623) dL_law_1621 rfl rfl ?_
                                                refine go_iconst (pc' := 1624) dL_law_1623 rfl (r32_c rfl) ?_
                                                obtain ⟨g520, h⟩ := gd h
                                                refine go_iadd (pc' := 1625) dL_law_1624 rfl g520 ?_
                                                obtain ⟨g521, h⟩ := gd h
                                                refine go_sald (pc' := 1626) dL_law_1625 rfl rfl g521 ?_
                                                refine go_aload_n (pc' := 1627) dL_law_1626 rfl rfl (Nat.le_of_ble_eq_true rfl) ?_
                                                refine go_iload (pc' := 1629) dL_law_1627 rfl rfl ?_
                                                refine go_iconst (pc' := 1630) dL_law_1629 rfl (r32_c rfl) ?_
                                                obtain ⟨g522, h⟩ := gd h
                                                refine go_iadd (pc' := 1631) dL_law_1630 rfl g522 ?_
                                                obtain ⟨g523, h⟩ := gd h
                                                refine go_sald (pc' := 1632) dL_law_1631 rfl rfl g523 ?_
                                                refine go_aload_n (pc' := 1633) dL_law_1632 rfl rfl (Nat.le_of_ble_eq_true rfl) ?_
                                                obtain ⟨v524, k525, h⟩ := bd h
                                                have k525 := l_L_cross (d + 41) n4 e3 σ2 ((q.2 (Int.toNat (y1 + 1))).toInt) ((q.2 (Int.toNat (y1 + 2))).toInt) ((q.2 (Int.toNat (y1 + 3))).toInt) _ k525
                                                refine go_call (kc := 145) (Mc := mt145) (v := some (pvI v524.1)) (w' := (true, n4, v524.2.1, v524.2.2)) (pc' := 1636) (st' := [pvI v524.1]) [pvR 10 0 0, pvI ((q.2 (Int.toNat (y1 + 1))).toInt), pvI ((q.2 (Int.toNat (y1 + 2))).toInt), pvI ((q.2 (Int.toNat (y1 + 3))).toInt), pvR 13 1 170] [] (Or.inr (Or.inl rfl)) dL_law_1633 rfl rm_12_163 mtE145 rfl rfl rfl (Nat.le_of_ble_eq_true rfl) (Or.inl (by decide)) k525 rfl ?_
                                                refine go_istore (L' := [some (pvS), some (pvR 10 0 0), some (pvR 11 0 129), some (pvR 13 1 170), some (pvI y1), some (pvI v524.1), none, none]) (pc' := 1638) dL_law_1636 rfl (Nat.le_of_ble_eq_true rfl) rfl ?_
                                                refine go_aload_n (pc' := 1639) dL_law_1638 rfl rfl (Nat.le_of_ble_eq_true rfl) ?_
                                                refine go_aload_n (pc' := 1640) dL_law_1639 rfl rfl (Nat.le_of_ble_eq_true rfl) ?_
                                                refine go_iload (pc' := 1642) dL_law_1640 rfl rfl ?_
                                                refine go_iconst (pc' := 1643) dL_law_1642 rfl (r32_c rfl) ?_
                                                obtain ⟨g526, h⟩ := gd h
                                                refine go_iadd (pc' := 1644) dL_law_1643 rfl g526 ?_
                                                obtain ⟨g527, h⟩ := gd h
                                                refine go_sald (pc' := 1645) dL_law_1644 rfl rfl g527 ?_
                                                refine go_aload_n (pc' := 1646) dL_law_1645 rfl rfl (Nat.le_of_ble_eq_true rfl) ?_
                                                refine go_iload (pc' := 1648) dL_law_1646 rfl rfl ?_
                                                refine go_iconst (pc' := 1649) dL_law_1648 rfl (r32_c rfl) ?_
                                                obtain ⟨g528, h⟩ := gd h
                                                refine go_iadd (pc' := 1650) dL_law_1649 rfl g528 ?_
                                                obtain ⟨g529, h⟩ := gd h
                                                refine go_sald (pc' := 1651) dL_law_1650 rfl rfl g529 ?_
                                                refine go_aload_n (pc' := 1652) dL_law_1651 rfl rfl (Nat.le_of_ble_eq_true rfl) ?_
                                                refine go_iload (pc' := 1654) dL_law_1652 rfl rfl ?_
                                                refine go_iconst (pc' := 1655) dL_law_1654 rfl (r32_c rfl) ?_
                                                obtain ⟨g530, h⟩ := gd h
                                                refine go_iadd (pc' := 1656) dL_law_1655 rfl g530 ?_
                                                obtain ⟨g531, h⟩ := gd h
                                                refine go_sald (pc' := 1657) dL_law_1656 rfl rfl g531 ?_
                                                obtain ⟨v532, k533, h⟩ := bd h
                                                have k533 := l_M_cross (d + 2) n4 v524.2.1 v524.2.2 ((q.2 (Int.toNat (y1 + 1))).toInt) ((q.2 (Int.toNat (y1 + 2))).toInt) ((q.2 (Int.toNat (y1 + 3))).toInt) _ k533
                                                refine go_call (kc := 229) (Mc := mt229) (v := some (pvI v532.1)) (w' := (true, n4, v524.2.1, v532.2)) (pc' := 1660) (st' := [pvI v532.1]) [pvR 11 0 129, pvI ((q.2 (Int.toNat (y1 + 1))).toInt), pvI ((q.2 (Int.toNat (y1 + 2))).toInt), pvI ((q.2 (Int.toNat (y1 + 3))).toInt)] [] (Or.inl rfl) dL_law_1657 rfl rm_12_165 mtE229 rfl rfl rfl (Nat.le_of_ble_eq_true rfl) (Or.inr ⟨_, _, 129, rfl, Or.inl rfl⟩) k533 rfl ?_
                                                refine go_istore (L' := [some (pvS), some (pvR 10 0 0), some (pvR 11 0 129), some (pvR 13 1 170), some (pvI y1), some (pvI v524.1), some (pvI v532.1), none]) (pc' := 1662) dL_law_1660 rfl (Nat.le_of_ble_eq_true rfl) rfl ?_
                                                refine go_aload_n (pc' := 1663) dL_law_1662 rfl rfl (Nat.le_of_ble_eq_true rfl) ?_
                                                obtain ⟨v534, k535, h⟩ := bd h
                                                have k535 := l_M_thrown (d + 283) n4 v524.2.1 v532.2 _ k535
                                                refine go_call (kc := 168) (Mc := mt168) (v := some (pvI v534)) (w' := (true, n4, v524.2.1, v532.2)) (pc' := 1666) (st' := [pvI v534]) [pvR 11 0 129] [] (Or.inl rfl) dL_law_1663 rfl rm_12_93 mtE168 rfl rfl rfl (Nat.le_of_ble_eq_true rfl) (Or.inr ⟨_, _, 129, rfl, Or.inl rfl⟩) k535 rfl ?_
                                                refine go_iload (pc' := 1668) dL_law_1666 rfl rfl ?_
                                                refine go_icmp_eq (t := 1673) (pc' := 1671) dL_law_1668 rfl rfl (fun c543 => ?_) (fun c543 => ?_)
                                                · rw [if_pos (show v534 = v524.1 from c543)] at h
                                                  refine go_iload (pc' := 1675) dL_law_1673 rfl rfl ?_
                                                  refine go_if_ne (t := 1690) (pc' := 1678) dL_law_1675 rfl rfl (fun c541 => ?_) (fun c541 => ?_)
                                                  · rw [if_pos (show v524.1 ≠ 0 from c541)] at h
                                                    refine go_goto (t := 1920) dL_law_1690 rfl ?_
                                                    obtain ⟨g536, h⟩ := gd h
                                                    refine go_iinc (L' := [some (pvS), some (pvR 10 0 0), some (pvR 11 0 129), some (pvR 13 1 170), some (pvI (y1 + 7)), some (pvI v524.1), some (pvI v532.1), none]) (pc' := 1923) dL_law_1920 rfl rfl g536 rfl ?_
                                                    refine go_goto (t := 23) dL_law_1923 rfl ?_
                                                    exact go_sub (ih (y1 + 7) v532.2 n4 v524.2.1 _ h) ⟨Or.inr rfl, Or.inr rfl, Or.inr rfl, Or.inr rfl, Or.inr rfl, Or.inl rfl, Or.inl rfl, Or.inr rfl, trivial⟩
                                                  · rw [if_neg (show ¬ (v524.1 ≠ 0) from c541)] at h
                                                    refine go_aload_n (pc' := 1679) dL_law_1678 rfl rfl (Nat.le_of_ble_eq_true rfl) ?_
                                                    refine go_iconst (pc' := 1680) dL_law_1679 rfl (r32_c rfl) ?_
                                                    obtain ⟨g537, h⟩ := gd h
                                                    refine go_lald (pc' := 1681) dL_law_1680 rfl g537 ?_
                                                    refine go_iload (pc' := 1683) dL_law_1681 rfl rfl ?_
                                                    refine go_i2l (pc' := 1684) dL_law_1683 rfl ?_
                                                    refine go_lcmp (pc' := 1685) dL_law_1684 rfl ?_
                                                    refine go_if_eq (t := 1690) (pc' := 1688) dL_law_1685 rfl rfl (fun c540 => ?_) (fun c540 => ?_)
                                                    · rw [if_pos (show (lcm (v532.2 170 0) v532.1) = 0 from c540)] at h
                                                      refine go_goto (t := 1920) dL_law_1690 rfl ?_
                                                      obtain ⟨g538, h⟩ := gd h
                                                      refine go_iinc (L' := [some (pvS), some (pvR 10 0 0), some (pvR 11 0 129), some (pvR 13 1 170), some (pvI (y1 + 7)), some (pvI v524.1), some (pvI v532.1), none]) (pc' := 1923) dL_law_1920 rfl rfl g538 rfl ?_
                                                      refine go_goto (t := 23) dL_law_1923 rfl ?_
                                                      exact go_sub (ih (y1 + 7) v532.2 n4 v524.2.1 _ h) ⟨Or.inr rfl, Or.inr rfl, Or.inr rfl, Or.inr rfl, Or.inr rfl, Or.inl rfl, Or.inl rfl, Or.inr rfl, trivial⟩
                                                    · rw [if_neg (show ¬ ((lcm (v532.2 170 0) v532.1) = 0) from c540)] at h
                                                      refine go_iconst (pc' := 1689) dL_law_1688 rfl (r32_c rfl) ?_
                                                      obtain ⟨g539, h⟩ := gd h
                                                      cases h
                                                      exact go_zret dL_law_1689 rfl g539 rfl
                                                · rw [if_neg (show ¬ (v534 = v524.1) from c543)] at h
                                                  refine go_iconst (pc' := 1672) dL_law_1671 rfl (r32_c rfl) ?_
                                                  obtain ⟨g542, h⟩ := gd h
                                                  cases h
                                                  exact go_zret dL_law_1672 rfl g542 rfl
                                              · rw [if_neg c544] at h
                                                by_cases c583 : (iand ((q.2 (Int.toNat y1)).toInt) 31) = 21
                                                · rw [if_pos c583] at h
                                                  refine go_table (t := 1693) dL_law_40 (Or.inr ⟨by omega, by omega, by rw [c583]; rfl⟩) rfl ?_
                                                  refine go_aload_n (pc' := 1694) dL_law_1693 rfl rfl (Nat.le_of_ble_eq_true rfl) ?_
                                                  refine go_aload_n (pc' := 1695) dL_law_1694 rfl rfl (Nat.le_of_ble_eq_true rfl) ?_
                                                  refine go_iload (pc' := 1697) dL_law_1695 rfl rfl ?_
                                                  refine go_iconst (pc' := 1698) dL_law_1697 rfl (r32_c rfl) ?_
                                                  obtain ⟨g545, h⟩ := gd h
                                                  refine go_iadd (pc' := 1699) dL_law_1698 rfl g545 ?_
                                                  obtain ⟨g546, h⟩ := gd h
                                                  refine go_sald (pc' := 1700) dL_law_1699 rfl rfl g546 ?_
                                                  refine go_aload_n (pc' := 1701) dL_law_1700 rfl rfl (Nat.le_of_ble_eq_true rfl) ?_
                                                  refine go_iload (pc' := 1703) dL_law_1701 rfl rfl ?_
                                                  refine go_iconst (pc' := 1704) dL_law_1703 rfl (r32_c rfl) ?_
                                                  obtain ⟨g547, h⟩ := gd h
                                                  refine go_iadd (pc' := 1705) dL_law_1704 rfl g547 ?_
                                                  obtain ⟨g548, h⟩ := gd h
                                                  refine go_sald (pc' := 1706) dL_law_1705 rfl rfl g548 ?_
                                                  refine go_aload_n (pc' := 1707) dL_law_1706 rfl rfl (Nat.le_of_ble_eq_true rfl) ?_
                                                  refine go_iload (pc' := 1709) dL_law_1707 rfl rfl ?_
                                                  refine go_iconst (pc' := 1710) dL_law_1709 rfl (r32_c rfl) ?_
                                                  obtain ⟨g549, h⟩ := gd h
                                                  refine go_iadd (pc' := 1711) dL_law_1710 rfl g549 ?_
                                                  obtain ⟨g550, h⟩ := gd h
                                                  refine go_sald (pc' := 1712) dL_law_1711 rfl rfl g550 ?_
                                                  refine go_aload_n (pc' := 1713) dL_law_1712 rfl rfl (Nat.le_of_ble_eq_true rfl) ?_
                                                  refine go_iload (pc' := 1715) dL_law_1713 rfl rfl ?_
                                                  refine go_iconst (pc' := 1716) dL_law_1715 rfl (r32_c rfl) ?_
                                                  obtain ⟨g551, h⟩ := gd h
                                                  refine go_iadd (pc' := 1717) dL_law_1716 rfl g551 ?_
                                                  obtain ⟨g552, h⟩ := gd h
                                                  refine go_sald (pc' := 1718) dL_law_1717 rfl rfl g552 ?_
                                                  refine go_aload_n (pc' := 1719) dL_law_1718 rfl rfl (Nat.le_of_ble_eq_true rfl) ?_
                                                  refine go_iload (pc' := 1721) dL_law_1719 rfl rfl ?_
                                                  refine go_iconst (pc' := 1722) dL_law_1721 rfl (r32_c rfl) ?_
                                                  obtain ⟨g553, h⟩ := gd h
                                                  refine go_iadd (pc' := 1723) dL_law_1722 rfl g553 ?_
                                                  obtain ⟨g554, h⟩ := gd h
                                                  refine go_sald (pc' := 1724) dL_law_1723 rfl rfl g554 ?_
                                                  refine go_aload_n (pc' := 1725) dL_law_1724 rfl rfl (Nat.le_of_ble_eq_true rfl) ?_
                                                  refine go_iload (pc' := 1727) dL_law_1725 rfl rfl ?_
                                                  refine go_bipush (pc' := 1729) dL_law_1727 rfl (r32_c rfl) (by decide) ?_
                                                  obtain ⟨g555, h⟩ := gd h
                                                  refine go_iadd (pc' := 1730) dL_law_1729 rfl g555 ?_
                                                  obtain ⟨g556, h⟩ := gd h
                                                  refine go_sald (pc' := 1731) dL_law_1730 rfl rfl g556 ?_
                                                  refine go_aload_n (pc' := 1732) dL_law_1731 rfl rfl (Nat.le_of_ble_eq_true rfl) ?_
                                                  obtain ⟨v557, k558, h⟩ := bd h
                                                  have k558 := l_L_write (d + 275) n4 e3 σ2 ((q.2 (Int.toNat (y1 + 1))).toInt) ((q.2 (Int.toNat (y1 + 2))).toInt) ((q.2 (Int.toNat (y1 + 3))).toInt) ((q.2 (Int.toNat (y1 + 4))).toInt) ((q.2 (Int.toNat (y1 + 5))).toInt) ((q.2 (Int.toNat (y1 + 6))).toInt) _ k558
                                                  refine go_call (kc := 147) (Mc := mt147) (v := some (pvI v557.1)) (w' := (true, n4, v557.2.1, v557.2.2)) (pc' := 1735) (st' := [pvI v557.1]) [pvR 10 0 0, pvI ((q.2 (Int.toNat (y1 + 1))).toInt), pvI ((q.2 (Int.toNat (y1 + 2))).toInt), pvI ((q.2 (Int.toNat (y1 + 3))).toInt), pvI ((q.2 (Int.toNat (y1 + 4))).toInt), pvI ((q.2 (Int.toNat (y1 + 5))).toInt), pvI ((q.2 (Int.toNat (y1 + 6))).toInt), pvR 13 1 170] [] (Or.inr (Or.inl rfl)) dL_law_1732 rfl rm_12_166 mtE147 rfl rfl rfl (Nat.le_of_ble_eq_true rfl) (Or.inl (by decide)) k558 rfl ?_
                                                  refine go_istore (L' := [some (pvS), some (pvR 10 0 0), some (pvR 11 0 129), some (pvR 13 1 170), some (pvI y1), some (pvI v557.1), none, none]) (pc' := 1737) dL_law_1735 rfl (Nat.le_of_ble_eq_true rfl) rfl ?_
                                                  refine go_aload_n (pc' := 1738) dL_law_1737 rfl rfl (Nat.le_of_ble_eq_true rfl) ?_
                                                  refine go_aload_n (pc' := 1739) dL_law_1738 rfl rfl (Nat.le_of_ble_eq_true rfl) ?_
                                                  refine go_iload (pc' := 1741) dL_law_1739 rfl rfl ?_
                                                  refine go_iconst (pc' := 1742) dL_law_1741 rfl (r32_c rfl) ?_
                                                  obtain ⟨g559, h⟩ := gd h
                                                  refine go_iadd (pc' := 1743) dL_law_1742 rfl g559 ?_
                                                  obtain ⟨g560, h⟩ := gd h
                                                  refine go_sald (pc' := 1744) dL_law_1743 rfl rfl g560 ?_
                                                  refine go_aload_n (pc' := 1745) dL_law_1744 rfl rfl (Nat.le_of_ble_eq_true rfl) ?_
                                                  refine go_iload (pc' := 1747) dL_law_1745 rfl rfl ?_
                                                  refine go_iconst (pc' := 1748) dL_law_1747 rfl (r32_c rfl) ?_
                                                  obtain ⟨g561, h⟩ := gd h
                                                  refine go_iadd (pc' := 1749) dL_law_1748 rfl g561 ?_
                                                  obtain ⟨g562, h⟩ := gd h
                                                  refine go_sald (pc' := 1750) dL_law_1749 rfl rfl g562 ?_
                                                  refine go_aload_n (pc' := 1751) dL_law_1750 rfl rfl (Nat.le_of_ble_eq_true rfl) ?_
                                                  refine go_iload (pc' := 1753) dL_law_1751 rfl rfl ?_
                                                  refine go_iconst (pc' := 1754) dL_law_1753 rfl (r32_c rfl) ?_
                                                  obtain ⟨g563, h⟩ := gd h
                                                  refine go_iadd (pc' := 1755) dL_law_1754 rfl g563 ?_
                                                  obtain ⟨g564, h⟩ := gd h
                                                  refine go_sald (pc' := 1756) dL_law_1755 rfl rfl g564 ?_
                                                  refine go_aload_n (pc' := 1757) dL_law_1756 rfl rfl (Nat.le_of_ble_eq_true rfl) ?_
                                                  refine go_iload (pc' := 1759) dL_law_1757 rfl rfl ?_
                                                  refine go_iconst (pc' := 1760) dL_law_1759 rfl (r32_c rfl) ?_
                                                  obtain ⟨g565, h⟩ := gd h
                                                  refine go_iadd (pc' := 1761) dL_law_1760 rfl g565 ?_
                                                  obtain ⟨g566, h⟩ := gd h
                                                  refine go_sald (pc' := 1762) dL_law_1761 rfl rfl g566 ?_
                                                  refine go_aload_n (pc' := 1763) dL_law_1762 rfl rfl (Nat.le_of_ble_eq_true rfl) ?_
                                                  refine go_iload (pc' := 1765) dL_law_1763 rfl rfl ?_
                                                  refine go_iconst (pc' := 1766) dL_law_1765 rfl (r32_c rfl) ?_
                                                  obtain ⟨g567, h⟩ := gd h
                                                  refine go_iadd (pc' := 1767) dL_law_1766 rfl g567 ?_
                                                  obtain ⟨g568, h⟩ := gd h
                                                  refine go_sald (pc' := 1768) dL_law_1767 rfl rfl g568 ?_
                                                  refine go_aload_n (pc' := 1769) dL_law_1768 rfl rfl (Nat.le_of_ble_eq_true rfl) ?_
                                                  refine go_iload (pc' := 1771) dL_law_1769 rfl rfl ?_
                                                  refine go_bipush (pc' := 1773) dL_law_1771 rfl (r32_c rfl) (by decide) ?_
                                                  obtain ⟨g569, h⟩ := gd h
                                                  refine go_iadd (pc' := 1774) dL_law_1773 rfl g569 ?_
                                                  obtain ⟨g570, h⟩ := gd h
                                                  refine go_sald (pc' := 1775) dL_law_1774 rfl rfl g570 ?_
                                                  obtain ⟨v571, k572, h⟩ := bd h
                                                  have k572 := l_M_write (d + 277) n4 v557.2.1 v557.2.2 ((q.2 (Int.toNat (y1 + 1))).toInt) ((q.2 (Int.toNat (y1 + 2))).toInt) ((q.2 (Int.toNat (y1 + 3))).toInt) ((q.2 (Int.toNat (y1 + 4))).toInt) ((q.2 (Int.toNat (y1 + 5))).toInt) ((q.2 (Int.toNat (y1 + 6))).toInt) _ k572
                                                  refine go_call (kc := 230) (Mc := mt230) (v := some (pvI v571.1)) (w' := (true, n4, v557.2.1, v571.2)) (pc' := 1778) (st' := [pvI v571.1]) [pvR 11 0 129, pvI ((q.2 (Int.toNat (y1 + 1))).toInt), pvI ((q.2 (Int.toNat (y1 + 2))).toInt), pvI ((q.2 (Int.toNat (y1 + 3))).toInt), pvI ((q.2 (Int.toNat (y1 + 4))).toInt), pvI ((q.2 (Int.toNat (y1 + 5))).toInt), pvI ((q.2 (Int.toNat (y1 + 6))).toInt)] [] (Or.inl rfl) dL_law_1775 rfl rm_12_169 mtE230 rfl rfl rfl (Nat.le_of_ble_eq_true rfl) (Or.inr ⟨_, _, 129, rfl, Or.inl rfl⟩) k572 rfl ?_
                                                  refine go_istore (L' := [some (pvS), some (pvR 10 0 0), some (pvR 11 0 129), some (pvR 13 1 170), some (pvI y1), some (pvI v557.1), some (pvI v571.1), none]) (pc' := 1780) dL_law_1778 rfl (Nat.le_of_ble_eq_true rfl) rfl ?_
                                                  refine go_aload_n (pc' := 1781) dL_law_1780 rfl rfl (Nat.le_of_ble_eq_true rfl) ?_
                                                  obtain ⟨v573, k574, h⟩ := bd h
                                                  have k574 := l_M_thrown (d + 283) n4 v557.2.1 v571.2 _ k574
                                                  refine go_call (kc := 168) (Mc := mt168) (v := some (pvI v573)) (w' := (true, n4, v557.2.1, v571.2)) (pc' := 1784) (st' := [pvI v573]) [pvR 11 0 129] [] (Or.inl rfl) dL_law_1781 rfl rm_12_93 mtE168 rfl rfl rfl (Nat.le_of_ble_eq_true rfl) (Or.inr ⟨_, _, 129, rfl, Or.inl rfl⟩) k574 rfl ?_
                                                  refine go_iload (pc' := 1786) dL_law_1784 rfl rfl ?_
                                                  refine go_icmp_eq (t := 1791) (pc' := 1789) dL_law_1786 rfl rfl (fun c582 => ?_) (fun c582 => ?_)
                                                  · rw [if_pos (show v573 = v557.1 from c582)] at h
                                                    refine go_iload (pc' := 1793) dL_law_1791 rfl rfl ?_
                                                    refine go_if_ne (t := 1808) (pc' := 1796) dL_law_1793 rfl rfl (fun c580 => ?_) (fun c580 => ?_)
                                                    · rw [if_pos (show v557.1 ≠ 0 from c580)] at h
                                                      refine go_goto (t := 1920) dL_law_1808 rfl ?_
                                                      obtain ⟨g575, h⟩ := gd h
                                                      refine go_iinc (L' := [some (pvS), some (pvR 10 0 0), some (pvR 11 0 129), some (pvR 13 1 170), some (pvI (y1 + 7)), some (pvI v557.1), some (pvI v571.1), none]) (pc' := 1923) dL_law_1920 rfl rfl g575 rfl ?_
                                                      refine go_goto (t := 23) dL_law_1923 rfl ?_
                                                      exact go_sub (ih (y1 + 7) v571.2 n4 v557.2.1 _ h) ⟨Or.inr rfl, Or.inr rfl, Or.inr rfl, Or.inr rfl, Or.inr rfl, Or.inl rfl, Or.inl rfl, Or.inr rfl, trivial⟩
                                                    · rw [if_neg (show ¬ (v557.1 ≠ 0) from c580)] at h
                                                      refine go_aload_n (pc' := 1797) dL_law_1796 rfl rfl (Nat.le_of_ble_eq_true rfl) ?_
                                                      refine go_iconst (pc' := 1798) dL_law_1797 rfl (r32_c rfl) ?_
                                                      obtain ⟨g576, h⟩ := gd h
                                                      refine go_lald (pc' := 1799) dL_law_1798 rfl g576 ?_
                                                      refine go_iload (pc' := 1801) dL_law_1799 rfl rfl ?_
                                                      refine go_i2l (pc' := 1802) dL_law_1801 rfl ?_
                                                      refine go_lcmp (pc' := 1803) dL_law_1802 rfl ?_
                                                      refine go_if_eq (t := 1808) (pc' := 1806) dL_law_1803 rfl rfl (fun c579 => ?_) (fun c579 => ?_)
                                                      · rw [if_pos (show (lcm (v571.2 170 0) v571.1) = 0 from c579)] at h
                                                        refine go_goto (t := 1920) dL_law_1808 rfl ?_
                                                        obtain ⟨g577, h⟩ := gd h
                                                        refine go_iinc (L' := [some (pvS), some (pvR 10 0 0), some (pvR 11 0 129), some (pvR 13 1 170), some (pvI (y1 + 7)), some (pvI v557.1), some (pvI v571.1), none]) (pc' := 1923) dL_law_1920 rfl rfl g577 rfl ?_
                                                        refine go_goto (t := 23) dL_law_1923 rfl ?_
                                                        exact go_sub (ih (y1 + 7) v571.2 n4 v557.2.1 _ h) ⟨Or.inr rfl, Or.inr rfl, Or.inr rfl, Or.inr rfl, Or.inr rfl, Or.inl rfl, Or.inl rfl, Or.inr rfl, trivial⟩
                                                      · rw [if_neg (show ¬ ((lcm (v571.2 170 0) v571.1) = 0) from c579)] at h
                                                        refine go_iconst (pc' := 1807) dL_law_1806 rfl (r32_c rfl) ?_
                                                        obtain ⟨g578, h⟩ := gd h
                                                        cases h
                                                        exact go_zret dL_law_1807 rfl g578 rfl
                                                  · rw [if_neg (show ¬ (v573 = v557.1) from c582)] at h
                                                    refine go_iconst (pc' := 1790) dL_law_1789 rfl (r32_c rfl) ?_
                                                    obtain ⟨g581, h⟩ := gd h
                                                    cases h
                                                    exact go_zret dL_law_1790 rfl g581 rfl
                                                · rw [if_neg c583] at h
                                                  by_cases c593 : (iand ((q.2 (Int.toNat y1)).toInt) 31) = 22
                                                  · rw [if_pos c593] at h
                                                    refine go_table (t := 1811) dL_law_40 (Or.inr ⟨by omega, by omega, by rw [c593]; rfl⟩) rfl ?_
                                                    refine go_aload_n (pc' := 1812) dL_law_1811 rfl rfl (Nat.le_of_ble_eq_true rfl) ?_
                                                    obtain ⟨v584, k585, h⟩ := bd h
                                                    have k585 := l_L_begin (d + 281) n4 e3 σ2 _ k585
                                                    refine go_call (kc := 161) (Mc := mt161) (v := some (pvI v584.1)) (w' := (true, n4, v584.2.1, v584.2.2)) (pc' := 1815) (st' := [pvI v584.1]) [pvR 10 0 0] [] (Or.inr (Or.inl rfl)) dL_law_1812 rfl rm_12_170 mtE161 rfl rfl rfl (Nat.le_of_ble_eq_true rfl) (Or.inl (by decide)) k585 rfl ?_
                                                    refine go_istore (L' := [some (pvS), some (pvR 10 0 0), some (pvR 11 0 129), some (pvR 13 1 170), some (pvI y1), some (pvI v584.1), none, none]) (pc' := 1817) dL_law_1815 rfl (Nat.le_of_ble_eq_true rfl) rfl ?_
                                                    refine go_aload_n (pc' := 1818) dL_law_1817 rfl rfl (Nat.le_of_ble_eq_true rfl) ?_
                                                    obtain ⟨v586, k587, h⟩ := bd h
                                                    have k587 := l_M_begin (d + 282) n4 v584.2.1 v584.2.2 _ k587
                                                    refine go_call (kc := 235) (Mc := mt235) (v := none) (w' := (true, n4, v584.2.1, v586)) (pc' := 1821) (st' := []) [pvR 11 0 129] [] (Or.inl rfl) dL_law_1818 rfl rm_12_173 mtE235 rfl rfl rfl (Nat.le_of_ble_eq_true rfl) (Or.inr ⟨_, _, 129, rfl, Or.inl rfl⟩) k587 rfl ?_
                                                    refine go_aload_n (pc' := 1822) dL_law_1821 rfl rfl (Nat.le_of_ble_eq_true rfl) ?_
                                                    obtain ⟨v588, k589, h⟩ := bd h
                                                    have k589 := l_M_thrown (d + 283) n4 v584.2.1 v586 _ k589
                                                    refine go_call (kc := 168) (Mc := mt168) (v := some (pvI v588)) (w' := (true, n4, v584.2.1, v586)) (pc' := 1825) (st' := [pvI v588]) [pvR 11 0 129] [] (Or.inl rfl) dL_law_1822 rfl rm_12_93 mtE168 rfl rfl rfl (Nat.le_of_ble_eq_true rfl) (Or.inr ⟨_, _, 129, rfl, Or.inl rfl⟩) k589 rfl ?_
                                                    refine go_iload (pc' := 1827) dL_law_1825 rfl rfl ?_
                                                    refine go_icmp_eq (t := 1832) (pc' := 1830) dL_law_1827 rfl rfl (fun c592 => ?_) (fun c592 => ?_)
                                                    · rw [if_pos (show v588 = v584.1 from c592)] at h
                                                      refine go_goto (t := 1920) dL_law_1832 rfl ?_
                                                      obtain ⟨g590, h⟩ := gd h
                                                      refine go_iinc (L' := [some (pvS), some (pvR 10 0 0), some (pvR 11 0 129), some (pvR 13 1 170), some (pvI (y1 + 7)), some (pvI v584.1), none, none]) (pc' := 1923) dL_law_1920 rfl rfl g590 rfl ?_
                                                      refine go_goto (t := 23) dL_law_1923 rfl ?_
                                                      exact go_sub (ih (y1 + 7) v586 n4 v584.2.1 _ h) ⟨Or.inr rfl, Or.inr rfl, Or.inr rfl, Or.inr rfl, Or.inr rfl, Or.inl rfl, Or.inr rfl, Or.inr rfl, trivial⟩
                                                    · rw [if_neg (show ¬ (v588 = v584.1) from c592)] at h
                                                      refine go_iconst (pc' := 1831) dL_law_1830 rfl (r32_c rfl) ?_
                                                      obtain ⟨g591, h⟩ := gd h
                                                      cases h
                                                      exact go_zret dL_law_1831 rfl g591 rfl
                                                  · rw [if_neg c593] at h
                                                    by_cases c618 : (iand ((q.2 (Int.toNat y1)).toInt) 31) = 23
                                                    · rw [if_pos c618] at h
                                                      refine go_table (t := 1835) dL_law_40 (Or.inr ⟨by omega, by omega, by rw [c618]; rfl⟩) rfl ?_
                                                      refine go_aload_n (pc' := 1836) dL_law_1835 rfl rfl (Nat.le_of_ble_eq_true rfl) ?_
                                                      refine go_aload_n (pc' := 1837) dL_law_1836 rfl rfl (Nat.le_of_ble_eq_true rfl) ?_
                                                      refine go_iload (pc' := 1839) dL_law_1837 rfl rfl ?_
                                                      refine go_iconst (pc' := 1840) dL_law_1839 rfl (r32_c rfl) ?_
                                                      obtain ⟨g594, h⟩ := gd h
                                                      refine go_iadd (pc' := 1841) dL_law_1840 rfl g594 ?_
                                                      obtain ⟨g595, h⟩ := gd h
                                                      refine go_sald (pc' := 1842) dL_law_1841 rfl rfl g595 ?_
                                                      obtain ⟨j596, k597, h⟩ := bd h
                                                      have k597J : Go (some q) (Ev (d + 284)) mt238 1850 [some (pvS), some (pvR 10 0 0), some (pvR 11 0 129), some (pvR 13 1 170), some (pvI y1), none, none, none] [pvI j596, pvR 10 0 0] (true, n4, e3, σ2) (0, some (pvI r.1), true, r.2.1, r.2.2.1, r.2.2.2) := by
                                                        refine go_aload_n (pc' := 1851) dL_law_1850 rfl rfl (Nat.le_of_ble_eq_true rfl) ?_
                                                        obtain ⟨v598, k599, h⟩ := bd h
                                                        have k599 := l_L_end (d + 281) n4 e3 σ2 j596 _ k599
                                                        refine go_call (kc := 164) (Mc := mt164) (v := some (pvI v598.1)) (w' := (true, n4, v598.2.1, v598.2.2)) (pc' := 1854) (st' := [pvI v598.1]) [pvR 10 0 0, pvI j596, pvR 13 1 170] [] (Or.inr (Or.inl rfl)) dL_law_1851 rfl rm_12_174 mtE164 rfl rfl rfl (Nat.le_of_ble_eq_true rfl) (Or.inl (by decide)) k599 rfl ?_
                                                        refine go_istore (L' := [some (pvS), some (pvR 10 0 0), some (pvR 11 0 129), some (pvR 13 1 170), some (pvI y1), some (pvI v598.1), none, none]) (pc' := 1856) dL_law_1854 rfl (Nat.le_of_ble_eq_true rfl) rfl ?_
                                                        refine go_aload_n (pc' := 1857) dL_law_1856 rfl rfl (Nat.le_of_ble_eq_true rfl) ?_
                                                        refine go_aload_n (pc' := 1858) dL_law_1857 rfl rfl (Nat.le_of_ble_eq_true rfl) ?_
                                                        refine go_iload (pc' := 1860) dL_law_1858 rfl rfl ?_
                                                        refine go_iconst (pc' := 1861) dL_law_1860 rfl (r32_c rfl) ?_
                                                        obtain ⟨g600, h⟩ := gd h
                                                        refine go_iadd (pc' := 1862) dL_law_1861 rfl g600 ?_
                                                        obtain ⟨g601, h⟩ := gd h
                                                        refine go_sald (pc' := 1863) dL_law_1862 rfl rfl g601 ?_
                                                        obtain ⟨j602, k603, h⟩ := bd h
                                                        have k603J : Go (some q) (Ev (d + 284)) mt238 1871 [some (pvS), some (pvR 10 0 0), some (pvR 11 0 129), some (pvR 13 1 170), some (pvI y1), some (pvI v598.1), none, none] [pvI j602, pvR 11 0 129] (true, n4, v598.2.1, v598.2.2) (0, some (pvI r.1), true, r.2.1, r.2.2.1, r.2.2.2) := by
                                                          obtain ⟨v604, k605, h⟩ := bd h
                                                          have k605 := l_M_end (d + 282) n4 v598.2.1 v598.2.2 j602 _ k605
                                                          refine go_call (kc := 236) (Mc := mt236) (v := some (pvI v604.1)) (w' := (true, n4, v598.2.1, v604.2)) (pc' := 1874) (st' := [pvI v604.1]) [pvR 11 0 129, pvI j602] [] (Or.inl rfl) dL_law_1871 rfl rm_12_177 mtE236 rfl rfl rfl (Nat.le_of_ble_eq_true rfl) (Or.inr ⟨_, _, 129, rfl, Or.inl rfl⟩) k605 rfl ?_
                                                          refine go_istore (L' := [some (pvS), some (pvR 10 0 0), some (pvR 11 0 129), some (pvR 13 1 170), some (pvI y1), some (pvI v598.1), some (pvI v604.1), none]) (pc' := 1876) dL_law_1874 rfl (Nat.le_of_ble_eq_true rfl) rfl ?_
                                                          refine go_aload_n (pc' := 1877) dL_law_1876 rfl rfl (Nat.le_of_ble_eq_true rfl) ?_
                                                          obtain ⟨v606, k607, h⟩ := bd h
                                                          have k607 := l_M_thrown (d + 283) n4 v598.2.1 v604.2 _ k607
                                                          refine go_call (kc := 168) (Mc := mt168) (v := some (pvI v606)) (w' := (true, n4, v598.2.1, v604.2)) (pc' := 1880) (st' := [pvI v606]) [pvR 11 0 129] [] (Or.inl rfl) dL_law_1877 rfl rm_12_93 mtE168 rfl rfl rfl (Nat.le_of_ble_eq_true rfl) (Or.inr ⟨_, _, 129, rfl, Or.inl rfl⟩) k607 rfl ?_
                                                          refine go_iload (pc' := 1882) dL_law_1880 rfl rfl ?_
                                                          refine go_icmp_eq (t := 1887) (pc' := 1885) dL_law_1882 rfl rfl (fun c615 => ?_) (fun c615 => ?_)
                                                          · rw [if_pos (show v606 = v598.1 from c615)] at h
                                                            refine go_iload (pc' := 1889) dL_law_1887 rfl rfl ?_
                                                            refine go_if_ne (t := 1904) (pc' := 1892) dL_law_1889 rfl rfl (fun c613 => ?_) (fun c613 => ?_)
                                                            · rw [if_pos (show v598.1 ≠ 0 from c613)] at h
                                                              refine go_goto (t := 1920) dL_law_1904 rfl ?_
                                                              obtain ⟨g608, h⟩ := gd h
                                                              refine go_iinc (L' := [some (pvS), some (pvR 10 0 0), some (pvR 11 0 129), some (pvR 13 1 170), some (pvI (y1 + 7)), some (pvI v598.1), some (pvI v604.1), none]) (pc' := 1923) dL_law_1920 rfl rfl g608 rfl ?_
                                                              refine go_goto (t := 23) dL_law_1923 rfl ?_
                                                              exact go_sub (ih (y1 + 7) v604.2 n4 v598.2.1 _ h) ⟨Or.inr rfl, Or.inr rfl, Or.inr rfl, Or.inr rfl, Or.inr rfl, Or.inl rfl, Or.inl rfl, Or.inr rfl, trivial⟩
                                                            · rw [if_neg (show ¬ (v598.1 ≠ 0) from c613)] at h
                                                              refine go_aload_n (pc' := 1893) dL_law_1892 rfl rfl (Nat.le_of_ble_eq_true rfl) ?_
                                                              refine go_iconst (pc' := 1894) dL_law_1893 rfl (r32_c rfl) ?_
                                                              obtain ⟨g609, h⟩ := gd h
                                                              refine go_lald (pc' := 1895) dL_law_1894 rfl g609 ?_
                                                              refine go_iload (pc' := 1897) dL_law_1895 rfl rfl ?_
                                                              refine go_i2l (pc' := 1898) dL_law_1897 rfl ?_
                                                              refine go_lcmp (pc' := 1899) dL_law_1898 rfl ?_
                                                              refine go_if_eq (t := 1904) (pc' := 1902) dL_law_1899 rfl rfl (fun c612 => ?_) (fun c612 => ?_)
                                                              · rw [if_pos (show (lcm (v604.2 170 0) v604.1) = 0 from c612)] at h
                                                                refine go_goto (t := 1920) dL_law_1904 rfl ?_
                                                                obtain ⟨g610, h⟩ := gd h
                                                                refine go_iinc (L' := [some (pvS), some (pvR 10 0 0), some (pvR 11 0 129), some (pvR 13 1 170), some (pvI (y1 + 7)), some (pvI v598.1), some (pvI v604.1), none]) (pc' := 1923) dL_law_1920 rfl rfl g610 rfl ?_
                                                                refine go_goto (t := 23) dL_law_1923 rfl ?_
                                                                exact go_sub (ih (y1 + 7) v604.2 n4 v598.2.1 _ h) ⟨Or.inr rfl, Or.inr rfl, Or.inr rfl, Or.inr rfl, Or.inr rfl, Or.inl rfl, Or.inl rfl, Or.inr rfl, trivial⟩
                                                              · rw [if_neg (show ¬ ((lcm (v604.2 170 0) v604.1) = 0) from c612)] at h
                                                                refine go_iconst (pc' := 1903) dL_law_1902 rfl (r32_c rfl) ?_
                                                                obtain ⟨g611, h⟩ := gd h
                                                                cases h
                                                                exact go_zret dL_law_1903 rfl g611 rfl
                                                          · rw [if_neg (show ¬ (v606 = v598.1) from c615)] at h
                                                            refine go_iconst (pc' := 1886) dL_law_1885 rfl (r32_c rfl) ?_
                                                            obtain ⟨g614, h⟩ := gd h
                                                            cases h
                                                            exact go_zret dL_law_1886 rfl g614 rfl
                                                        clear h
                                                        have h := k603
                                                        refine go_if_eq (t := 1870) (pc' := 1866) dL_law_1863 rfl rfl (fun c616 => ?_) (fun c616 => ?_)
                                                        · rw [if_pos (show ((q.2 (Int.toNat (y1 + 1))).toInt) = 0 from c616)] at h
                                                          refine go_iconst (pc' := 1871) dL_law_1870 rfl (r32_c rfl) ?_
                                                          cases h
                                                          exact k603J
                                                        · rw [if_neg (show ¬ (((q.2 (Int.toNat (y1 + 1))).toInt) = 0) from c616)] at h
                                                          refine go_iconst (pc' := 1867) dL_law_1866 rfl (r32_c rfl) ?_
                                                          refine go_goto (t := 1871) dL_law_1867 rfl ?_
                                                          cases h
                                                          exact k603J
                                                      clear h
                                                      have h := k597
                                                      refine go_if_eq (t := 1849) (pc' := 1845) dL_law_1842 rfl rfl (fun c617 => ?_) (fun c617 => ?_)
                                                      · rw [if_pos (show ((q.2 (Int.toNat (y1 + 1))).toInt) = 0 from c617)] at h
                                                        refine go_iconst (pc' := 1850) dL_law_1849 rfl (r32_c rfl) ?_
                                                        cases h
                                                        exact k597J
                                                      · rw [if_neg (show ¬ (((q.2 (Int.toNat (y1 + 1))).toInt) = 0) from c617)] at h
                                                        refine go_iconst (pc' := 1846) dL_law_1845 rfl (r32_c rfl) ?_
                                                        refine go_goto (t := 1850) dL_law_1846 rfl ?_
                                                        cases h
                                                        exact k597J
                                                    · rw [if_neg c618] at h
                                                      by_cases c626 : (iand ((q.2 (Int.toNat y1)).toInt) 31) = 24
                                                      · rw [if_pos c626] at h
                                                        refine go_table (t := 1907) dL_law_40 (Or.inr ⟨by omega, by omega, by rw [c626]; rfl⟩) rfl ?_
                                                        refine go_aload_n (pc' := 1908) dL_law_1907 rfl rfl (Nat.le_of_ble_eq_true rfl) ?_
                                                        obtain ⟨v619, k620, h⟩ := bd h
                                                        have k620 := l_C_facts (d + 283) n4 e3 σ2 _ k620
                                                        refine go_call (kc := 17) (Mc := mt17) (v := some (pvI v619)) (w' := (true, n4, e3, σ2)) (pc' := 1911) (st' := [pvI v619]) [pvR 10 0 0] [] (Or.inl rfl) dL_law_1908 rfl rm_12_178 mtE17 rfl rfl rfl (Nat.le_of_ble_eq_true rfl) (Or.inr ⟨_, _, 0, rfl, Or.inl rfl⟩) k620 rfl ?_
                                                        refine go_aload_n (pc' := 1912) dL_law_1911 rfl rfl (Nat.le_of_ble_eq_true rfl) ?_
                                                        obtain ⟨v621, k622, h⟩ := bd h
                                                        have k622 := l_M_facts (d + 282) n4 e3 σ2 _ k622
                                                        refine go_call (kc := 237) (Mc := mt237) (v := some (pvI v621.1)) (w' := (true, n4, e3, v621.2)) (pc' := 1915) (st' := [pvI v621.1, pvI v619]) [pvR 11 0 129] [pvI v619] (Or.inl rfl) dL_law_1912 rfl rm_12_181 mtE237 rfl rfl rfl (Nat.le_of_ble_eq_true rfl) (Or.inr ⟨_, _, 129, rfl, Or.inl rfl⟩) k622 rfl ?_
                                                        refine go_icmp_eq (t := 1920) (pc' := 1918) dL_law_1915 rfl rfl (fun c625 => ?_) (fun c625 => ?_)
                                                        · rw [if_pos (show v619 = v621.1 from c625)] at h
                                                          obtain ⟨g623, h⟩ := gd h
                                                          refine go_iinc (L' := [some (pvS), some (pvR 10 0 0), some (pvR 11 0 129), some (pvR 13 1 170), some (pvI (y1 + 7)), none, none, none]) (pc' := 1923) dL_law_1920 rfl rfl g623 rfl ?_
                                                          refine go_goto (t := 23) dL_law_1923 rfl ?_
                                                          exact ih (y1 + 7) v621.2 n4 e3 _ h
                                                        · rw [if_neg (show ¬ (v619 = v621.1) from c625)] at h
                                                          refine go_iconst (pc' := 1919) dL_law_1918 rfl (r32_c rfl) ?_
                                                          obtain ⟨g624, h⟩ := gd h
                                                          cases h
                                                          exact go_zret dL_law_1919 rfl g624 rfl
                                                      · rw [if_neg c626] at h
                                                        refine go_table (t := 1920) dL_law_40 (Or.inl ⟨by omega, rfl⟩) rfl ?_
                                                        obtain ⟨g627, h⟩ := gd h
                                                        refine go_iinc (L' := [some (pvS), some (pvR 10 0 0), some (pvR 11 0 129), some (pvR 13 1 170), some (pvI (y1 + 7)), none, none, none]) (pc' := 1923) dL_law_1920 rfl rfl g627 rfl ?_
                                                        refine go_goto (t := 23) dL_law_1923 rfl ?_
                                                        exact ih (y1 + 7) σ2 n4 e3 _ h

set_option maxRecDepth 10000 in
theorem l_L_law (q : Nat × (Nat → Int32)) (d n e : Nat) (σ : Hp) (r : Int × Nat × Nat × Hp) (h : f_L_law q σ n e = some r) : Go (some q) (Ev (d + 284)) mt238 20 [some (pvS), some (pvR 10 0 0), some (pvR 11 0 129), some (pvR 13 1 170), none, none, none, none] [] (true, n, e, σ) (0, some (pvI r.1), true, r.2.1, r.2.2.1, r.2.2.2) := by
  unfold f_L_law at h
  refine go_iconst (pc' := 21) dL_law_20 rfl (r32_c rfl) ?_
  refine go_istore (L' := [some (pvS), some (pvR 10 0 0), some (pvR 11 0 129), some (pvR 13 1 170), some (pvI 0), none, none, none]) (pc' := 23) dL_law_21 rfl (Nat.le_of_ble_eq_true rfl) rfl ?_
  exact l_L_law_23 q d n e q zFuel 0 σ n e _ h

