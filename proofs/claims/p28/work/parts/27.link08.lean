/-! ===== links: each function is what its bytecode does ===== -/
set_option maxRecDepth 10000 in
theorem l_L_law_71 (q : Nat × (Nat → Int32)) (d : Nat) (n : Nat) (e : Nat) (q : Nat × (Nat → Int32)) : ∀ (F : Nat) (y12 : Int) (σ13 : Hp) (n15 : Nat) (e14 : Nat) (r : Int × Nat × Nat × Hp), f_L_law_71 q F y12 σ13 n15 e14 = some r → Go (some q) (Ev (d + 244)) mt163 71 [some (pvS), some (pvR 10 0 0), some (pvR 12 5 129), some (pvI y12), none, none, none, none] [] (true, n15, e14, σ13) (0, some (pvI r.1), true, r.2.1, r.2.2.1, r.2.2.2) := by
  intro F
  induction F with
  | zero =>
    intro _ _ _ _ _ h
    rw [f_L_law_71] at h
    cases h
  | succ F ih =>
    intro y12 σ13 n15 e14 r h
    rw [f_L_law_71] at h
    refine go_iload_n (pc' := 72) dL_law_71 rfl rfl ?_
    refine go_bipush (pc' := 74) dL_law_72 rfl (r32_c rfl) (by decide) ?_
    refine go_icmp_ge (t := 166) (pc' := 77) dL_law_74 rfl rfl (fun c77 => ?_) (fun c77 => ?_)
    · rw [if_pos (show 36 ≤ y12 from c77)] at h
      refine go_aload_n (pc' := 167) dL_law_166 rfl rfl (Nat.le_of_ble_eq_true rfl) ?_
      refine go_iconst (pc' := 168) dL_law_167 rfl (r32_c rfl) ?_
      refine go_iconst (pc' := 169) dL_law_168 rfl (r32_c rfl) ?_
      refine go_iconst (pc' := 170) dL_law_169 rfl (r32_c rfl) ?_
      obtain ⟨v16, k17, h⟩ := bd h
      have k17 := l_L_members (d + 236) n15 e14 σ13 3 0 1 _ k17
      refine go_call (kc := 42) (Mc := mt42) (v := some (pvI v16.1)) (w' := (true, n15, v16.2.1, v16.2.2)) (pc' := 173) (st' := [pvI v16.1]) [pvR 10 0 0, pvI 3, pvI 0, pvI 1] [] (Or.inr (Or.inl rfl)) dL_law_170 rfl rm_12_100 mtE42 rfl rfl rfl (Nat.le_of_ble_eq_true rfl) (Or.inl (by decide)) k17 rfl ?_
      refine go_bipush (pc' := 175) dL_law_173 rfl (r32_c rfl) (by decide) ?_
      obtain ⟨j18, k19, h⟩ := bd h
      have k19J : Go (some q) (Ev (d + 244)) mt163 274 [some (pvS), some (pvR 10 0 0), some (pvR 12 5 129), some (pvI y12), none, none, none, none] [pvI j18.1] (true, j18.2.2.1, j18.2.2.2, j18.2.1) (0, some (pvI r.1), true, r.2.1, r.2.2.1, r.2.2.2) := by
        obtain ⟨g41, h⟩ := gd h
        cases h
        exact go_zret dL_law_274 rfl g41 rfl
      clear h
      have h := k19
      refine go_icmp_ne (t := 273) (pc' := 178) dL_law_175 rfl rfl (fun c42 => ?_) (fun c42 => ?_)
      · rw [if_pos (show v16.1 ≠ (-2) from c42)] at h
        refine go_iconst (pc' := 274) dL_law_273 rfl (r32_c rfl) ?_
        cases h
        exact k19J
      · rw [if_neg (show ¬ (v16.1 ≠ (-2)) from c42)] at h
        refine go_aload_n (pc' := 179) dL_law_178 rfl rfl (Nat.le_of_ble_eq_true rfl) ?_
        refine go_iconst (pc' := 180) dL_law_179 rfl (r32_c rfl) ?_
        refine go_iconst (pc' := 181) dL_law_180 rfl (r32_c rfl) ?_
        obtain ⟨v20, k21, h⟩ := bd h
        have k21 := l_L_bridges (d + 236) n15 v16.2.1 v16.2.2 0 0 _ k21
        refine go_call (kc := 43) (Mc := mt43) (v := some (pvI v20.1)) (w' := (true, n15, v20.2.1, v20.2.2)) (pc' := 184) (st' := [pvI v20.1]) [pvR 10 0 0, pvI 0, pvI 0] [] (Or.inr (Or.inl rfl)) dL_law_181 rfl rm_12_104 mtE43 rfl rfl rfl (Nat.le_of_ble_eq_true rfl) (Or.inl (by decide)) k21 rfl ?_
        refine go_bipush (pc' := 186) dL_law_184 rfl (r32_c rfl) (by decide) ?_
        refine go_icmp_ne (t := 273) (pc' := 189) dL_law_186 rfl rfl (fun c40 => ?_) (fun c40 => ?_)
        · rw [if_pos (show v20.1 ≠ (-3) from c40)] at h
          refine go_iconst (pc' := 274) dL_law_273 rfl (r32_c rfl) ?_
          cases h
          exact k19J
        · rw [if_neg (show ¬ (v20.1 ≠ (-3)) from c40)] at h
          refine go_aload_n (pc' := 190) dL_law_189 rfl rfl (Nat.le_of_ble_eq_true rfl) ?_
          refine go_iconst (pc' := 191) dL_law_190 rfl (r32_c rfl) ?_
          refine go_iconst (pc' := 192) dL_law_191 rfl (r32_c rfl) ?_
          refine go_iconst (pc' := 193) dL_law_192 rfl (r32_c rfl) ?_
          obtain ⟨v22, k23, h⟩ := bd h
          have k23 := l_L_measures (d + 240) n15 v20.2.1 v20.2.2 4 0 0 _ k23
          refine go_call (kc := 56) (Mc := mt56) (v := some (pvI v22.1)) (w' := (true, n15, v22.2.1, v22.2.2)) (pc' := 196) (st' := [pvI v22.1]) [pvR 10 0 0, pvI 4, pvI 0, pvI 0] [] (Or.inr (Or.inl rfl)) dL_law_193 rfl rm_12_129 mtE56 rfl rfl rfl (Nat.le_of_ble_eq_true rfl) (Or.inl (by decide)) k23 rfl ?_
          refine go_bipush (pc' := 198) dL_law_196 rfl (r32_c rfl) (by decide) ?_
          refine go_icmp_ne (t := 273) (pc' := 201) dL_law_198 rfl rfl (fun c39 => ?_) (fun c39 => ?_)
          · rw [if_pos (show v22.1 ≠ (-3) from c39)] at h
            refine go_iconst (pc' := 274) dL_law_273 rfl (r32_c rfl) ?_
            cases h
            exact k19J
          · rw [if_neg (show ¬ (v22.1 ≠ (-3)) from c39)] at h
            refine go_aload_n (pc' := 202) dL_law_201 rfl rfl (Nat.le_of_ble_eq_true rfl) ?_
            refine go_bipush (pc' := 204) dL_law_202 rfl (r32_c rfl) (by decide) ?_
            refine go_iconst (pc' := 205) dL_law_204 rfl (r32_c rfl) ?_
            refine go_iconst (pc' := 206) dL_law_205 rfl (r32_c rfl) ?_
            obtain ⟨v24, k25, h⟩ := bd h
            have k25 := l_L_words (d + 241) n15 v22.2.1 v22.2.2 7 0 0 _ k25
            refine go_call (kc := 48) (Mc := mt48) (v := some (pvI v24.1)) (w' := (true, n15, v24.2.1, v24.2.2)) (pc' := 209) (st' := [pvI v24.1]) [pvR 10 0 0, pvI 7, pvI 0, pvI 0] [] (Or.inr (Or.inl rfl)) dL_law_206 rfl rm_12_123 mtE48 rfl rfl rfl (Nat.le_of_ble_eq_true rfl) (Or.inl (by decide)) k25 rfl ?_
            refine go_bipush (pc' := 211) dL_law_209 rfl (r32_c rfl) (by decide) ?_
            refine go_icmp_ne (t := 273) (pc' := 214) dL_law_211 rfl rfl (fun c38 => ?_) (fun c38 => ?_)
            · rw [if_pos (show v24.1 ≠ (-3) from c38)] at h
              refine go_iconst (pc' := 274) dL_law_273 rfl (r32_c rfl) ?_
              cases h
              exact k19J
            · rw [if_neg (show ¬ (v24.1 ≠ (-3)) from c38)] at h
              refine go_aload_n (pc' := 215) dL_law_214 rfl rfl (Nat.le_of_ble_eq_true rfl) ?_
              refine go_bipush (pc' := 217) dL_law_215 rfl (r32_c rfl) (by decide) ?_
              refine go_iconst (pc' := 218) dL_law_217 rfl (r32_c rfl) ?_
              refine go_iconst (pc' := 219) dL_law_218 rfl (r32_c rfl) ?_
              refine go_iconst (pc' := 220) dL_law_219 rfl (r32_c rfl) ?_
              refine go_iconst (pc' := 221) dL_law_220 rfl (r32_c rfl) ?_
              obtain ⟨v26, k27, h⟩ := bd h
              have k27 := l_L_facts (d + 236) n15 v24.2.1 v24.2.2 12 0 0 0 0 _ k27
              refine go_call (kc := 57) (Mc := mt57) (v := some (pvI v26.1)) (w' := (true, n15, v26.2.1, v26.2.2)) (pc' := 224) (st' := [pvI v26.1]) [pvR 10 0 0, pvI 12, pvI 0, pvI 0, pvI 0, pvI 0] [] (Or.inr (Or.inl rfl)) dL_law_221 rfl rm_12_151 mtE57 rfl rfl rfl (Nat.le_of_ble_eq_true rfl) (Or.inl (by decide)) k27 rfl ?_
              refine go_bipush (pc' := 226) dL_law_224 rfl (r32_c rfl) (by decide) ?_
              refine go_icmp_ne (t := 273) (pc' := 229) dL_law_226 rfl rfl (fun c37 => ?_) (fun c37 => ?_)
              · rw [if_pos (show v26.1 ≠ (-2) from c37)] at h
                refine go_iconst (pc' := 274) dL_law_273 rfl (r32_c rfl) ?_
                cases h
                exact k19J
              · rw [if_neg (show ¬ (v26.1 ≠ (-2)) from c37)] at h
                refine go_aload_n (pc' := 230) dL_law_229 rfl rfl (Nat.le_of_ble_eq_true rfl) ?_
                refine go_iconst (pc' := 231) dL_law_230 rfl (r32_c rfl) ?_
                refine go_iconst (pc' := 232) dL_law_231 rfl (r32_c rfl) ?_
                refine go_iconst (pc' := 233) dL_law_232 rfl (r32_c rfl) ?_
                refine go_iconst (pc' := 234) dL_law_233 rfl (r32_c rfl) ?_
                refine go_iconst (pc' := 235) dL_law_234 rfl (r32_c rfl) ?_
                obtain ⟨v28, k29, h⟩ := bd h
                have k29 := l_L_picks (d + 1) n15 v26.2.1 v26.2.2 0 3 0 0 0 _ k29
                refine go_call (kc := 83) (Mc := mt83) (v := some (pvI v28.1)) (w' := (true, n15, v28.2.1, v28.2.2)) (pc' := 238) (st' := [pvI v28.1]) [pvR 10 0 0, pvI 0, pvI 3, pvI 0, pvI 0, pvI 0] [] (Or.inr (Or.inl rfl)) dL_law_235 rfl rm_12_88 mtE83 rfl rfl rfl (Nat.le_of_ble_eq_true rfl) (Or.inl (by decide)) k29 rfl ?_
                refine go_bipush (pc' := 240) dL_law_238 rfl (r32_c rfl) (by decide) ?_
                refine go_icmp_ne (t := 273) (pc' := 243) dL_law_240 rfl rfl (fun c36 => ?_) (fun c36 => ?_)
                · rw [if_pos (show v28.1 ≠ (-3) from c36)] at h
                  refine go_iconst (pc' := 274) dL_law_273 rfl (r32_c rfl) ?_
                  cases h
                  exact k19J
                · rw [if_neg (show ¬ (v28.1 ≠ (-3)) from c36)] at h
                  refine go_aload_n (pc' := 244) dL_law_243 rfl rfl (Nat.le_of_ble_eq_true rfl) ?_
                  refine go_iconst (pc' := 245) dL_law_244 rfl (r32_c rfl) ?_
                  refine go_iconst (pc' := 246) dL_law_245 rfl (r32_c rfl) ?_
                  refine go_bipush (pc' := 248) dL_law_246 rfl (r32_c rfl) (by decide) ?_
                  refine go_iconst (pc' := 249) dL_law_248 rfl (r32_c rfl) ?_
                  refine go_iconst (pc' := 250) dL_law_249 rfl (r32_c rfl) ?_
                  obtain ⟨v30, k31, h⟩ := bd h
                  have k31 := l_L_picks (d + 1) n15 v28.2.1 v28.2.2 0 2 12 0 0 _ k31
                  refine go_call (kc := 83) (Mc := mt83) (v := some (pvI v30.1)) (w' := (true, n15, v30.2.1, v30.2.2)) (pc' := 253) (st' := [pvI v30.1]) [pvR 10 0 0, pvI 0, pvI 2, pvI 12, pvI 0, pvI 0] [] (Or.inr (Or.inl rfl)) dL_law_250 rfl rm_12_88 mtE83 rfl rfl rfl (Nat.le_of_ble_eq_true rfl) (Or.inl (by decide)) k31 rfl ?_
                  refine go_bipush (pc' := 255) dL_law_253 rfl (r32_c rfl) (by decide) ?_
                  refine go_icmp_ne (t := 273) (pc' := 258) dL_law_255 rfl rfl (fun c35 => ?_) (fun c35 => ?_)
                  · rw [if_pos (show v30.1 ≠ (-3) from c35)] at h
                    refine go_iconst (pc' := 274) dL_law_273 rfl (r32_c rfl) ?_
                    cases h
                    exact k19J
                  · rw [if_neg (show ¬ (v30.1 ≠ (-3)) from c35)] at h
                    refine go_aload_n (pc' := 259) dL_law_258 rfl rfl (Nat.le_of_ble_eq_true rfl) ?_
                    refine go_iconst (pc' := 260) dL_law_259 rfl (r32_c rfl) ?_
                    refine go_iconst (pc' := 261) dL_law_260 rfl (r32_c rfl) ?_
                    obtain ⟨v32, k33, h⟩ := bd h
                    have k33 := l_L_calculates (d + 240) n15 v30.2.1 v30.2.2 3 0 _ k33
                    refine go_call (kc := 52) (Mc := mt52) (v := some (pvI v32.1)) (w' := (true, v32.2.1, v32.2.2.1, v32.2.2.2)) (pc' := 264) (st' := [pvI v32.1]) [pvR 10 0 0, pvI 3, pvI 0] [] (Or.inr (Or.inl rfl)) dL_law_261 rfl rm_12_126 mtE52 rfl rfl rfl (Nat.le_of_ble_eq_true rfl) (Or.inl (by decide)) k33 rfl ?_
                    refine go_bipush (pc' := 266) dL_law_264 rfl (r32_c rfl) (by decide) ?_
                    refine go_icmp_ne (t := 273) (pc' := 269) dL_law_266 rfl rfl (fun c34 => ?_) (fun c34 => ?_)
                    · rw [if_pos (show v32.1 ≠ (-2) from c34)] at h
                      refine go_iconst (pc' := 274) dL_law_273 rfl (r32_c rfl) ?_
                      cases h
                      exact k19J
                    · rw [if_neg (show ¬ (v32.1 ≠ (-2)) from c34)] at h
                      refine go_iconst (pc' := 270) dL_law_269 rfl (r32_c rfl) ?_
                      refine go_goto (t := 274) dL_law_270 rfl ?_
                      cases h
                      exact k19J
    · rw [if_neg (show ¬ (36 ≤ y12) from c77)] at h
      refine go_aload_n (pc' := 78) dL_law_77 rfl rfl (Nat.le_of_ble_eq_true rfl) ?_
      refine go_iconst (pc' := 79) dL_law_78 rfl (r32_c rfl) ?_
      refine go_iload_n (pc' := 80) dL_law_79 rfl rfl ?_
      obtain ⟨g43, h⟩ := gd h
      refine go_imul (pc' := 81) dL_law_80 rfl g43 ?_
      obtain ⟨g44, h⟩ := gd h
      refine go_scr (q := q) (k := (2 * y12)) (r := []) rfl dL_law_81 rfl rm_12_154 rfl (Nat.le_of_ble_eq_true rfl) g44 ?_
      refine go_istore (L' := [some (pvS), some (pvR 10 0 0), some (pvR 12 5 129), some (pvI y12), some (pvI (scrV q (2 * y12))), none, none, none]) (pc' := 86) dL_law_84 rfl (Nat.le_of_ble_eq_true rfl) rfl ?_
      refine go_aload_n (pc' := 87) dL_law_86 rfl rfl (Nat.le_of_ble_eq_true rfl) ?_
      refine go_iconst (pc' := 88) dL_law_87 rfl (r32_c rfl) ?_
      refine go_iload_n (pc' := 89) dL_law_88 rfl rfl ?_
      obtain ⟨g45, h⟩ := gd h
      refine go_imul (pc' := 90) dL_law_89 rfl g45 ?_
      refine go_iconst (pc' := 91) dL_law_90 rfl (r32_c rfl) ?_
      obtain ⟨g46, h⟩ := gd h
      refine go_iadd (pc' := 92) dL_law_91 rfl g46 ?_
      obtain ⟨g47, h⟩ := gd h
      refine go_scr (q := q) (k := ((2 * y12) + 1)) (r := []) rfl dL_law_92 rfl rm_12_154 rfl (Nat.le_of_ble_eq_true rfl) g47 ?_
      refine go_istore (L' := [some (pvS), some (pvR 10 0 0), some (pvR 12 5 129), some (pvI y12), some (pvI (scrV q (2 * y12))), some (pvI (scrV q ((2 * y12) + 1))), none, none]) (pc' := 97) dL_law_95 rfl (Nat.le_of_ble_eq_true rfl) rfl ?_
      refine go_aload_n (pc' := 98) dL_law_97 rfl rfl (Nat.le_of_ble_eq_true rfl) ?_
      refine go_aload_n (pc' := 99) dL_law_98 rfl rfl (Nat.le_of_ble_eq_true rfl) ?_
      obtain ⟨v48, k49, h⟩ := bd h
      have k49 := l_L_tell (d + 1) n15 e14 σ13 _ k49
      refine go_call (kc := 114) (Mc := mt114) (v := some (pvR 12 60 v48.1)) (w' := (true, v48.2.1, e14, v48.2.2)) (pc' := 102) (st' := [pvR 12 60 v48.1]) [pvR 10 0 0, pvR 12 5 129] [] (Or.inr (Or.inl rfl)) dL_law_99 rfl rm_12_156 mtE114 rfl rfl rfl (Nat.le_of_ble_eq_true rfl) (Or.inl (by decide)) k49 rfl ?_
      refine go_astore (L' := [some (pvS), some (pvR 10 0 0), some (pvR 12 5 129), some (pvI y12), some (pvI (scrV q (2 * y12))), some (pvI (scrV q ((2 * y12) + 1))), some (pvR 12 60 v48.1), none]) (pc' := 104) dL_law_102 rfl (Nat.le_of_ble_eq_true rfl) (Nat.le_of_ble_eq_true rfl) rfl ?_
      refine go_aload_n (pc' := 105) dL_law_104 rfl rfl (Nat.le_of_ble_eq_true rfl) ?_
      refine go_aload_n (pc' := 106) dL_law_105 rfl rfl (Nat.le_of_ble_eq_true rfl) ?_
      refine go_iload (pc' := 108) dL_law_106 rfl rfl ?_
      refine go_iload (pc' := 110) dL_law_108 rfl rfl ?_
      refine go_iconst (pc' := 111) dL_law_110 rfl (r32_c rfl) ?_
      refine go_ishr (pc' := 112) dL_law_111 rfl ?_
      refine go_bipush (pc' := 114) dL_law_112 rfl (r32_c rfl) (by decide) ?_
      obtain ⟨v50, k51, h⟩ := bd h
      have k51 := l_L_low (d + 243) v48.2.1 e14 v48.2.2 (ishr (scrV q (2 * y12)) 3) 17 _ k51
      refine go_call (kc := 41) (Mc := mt41) (v := some (pvI v50)) (w' := (true, v48.2.1, e14, v48.2.2)) (pc' := 117) (st' := [pvI v50, pvI (scrV q ((2 * y12) + 1)), pvR 12 5 129, pvR 10 0 0]) [pvI (ishr (scrV q (2 * y12)) 3), pvI 17] [pvI (scrV q ((2 * y12) + 1)), pvR 12 5 129, pvR 10 0 0] (Or.inr (Or.inl rfl)) dL_law_114 rfl rm_12_59 mtE41 rfl rfl rfl (Nat.le_of_ble_eq_true rfl) (Or.inl (by decide)) k51 rfl ?_
      obtain ⟨v52, k53, h⟩ := bd h
      have k53 := l_L_act (d + 234) v48.2.1 e14 v48.2.2 (scrV q ((2 * y12) + 1)) v50 _ k53
      refine go_call (kc := 131) (Mc := mt131) (v := some (pvI v52.1)) (w' := (true, v52.2.1, v52.2.2.1, v52.2.2.2)) (pc' := 120) (st' := [pvI v52.1]) [pvR 10 0 0, pvR 12 5 129, pvI (scrV q ((2 * y12) + 1)), pvI v50] [] (Or.inr (Or.inl rfl)) dL_law_117 rfl rm_12_160 mtE131 rfl rfl rfl (Nat.le_of_ble_eq_true rfl) (Or.inl (by decide)) k53 rfl ?_
      refine go_istore (L' := [some (pvS), some (pvR 10 0 0), some (pvR 12 5 129), some (pvI y12), some (pvI (scrV q (2 * y12))), some (pvI (scrV q ((2 * y12) + 1))), some (pvR 12 60 v48.1), some (pvI v52.1)]) (pc' := 122) dL_law_120 rfl (Nat.le_of_ble_eq_true rfl) rfl ?_
      refine go_iload (pc' := 124) dL_law_122 rfl rfl ?_
      refine go_iconst (pc' := 125) dL_law_124 rfl (r32_c rfl) ?_
      refine go_icmp_ge (t := 148) (pc' := 128) dL_law_125 rfl rfl (fun c76 => ?_) (fun c76 => ?_)
      · rw [if_pos (show (-1) ≤ v52.1 from c76)] at h
        refine go_aload_n (pc' := 149) dL_law_148 rfl rfl (Nat.le_of_ble_eq_true rfl) ?_
        refine go_aload_n (pc' := 150) dL_law_149 rfl rfl (Nat.le_of_ble_eq_true rfl) ?_
        refine go_iload (pc' := 152) dL_law_150 rfl rfl ?_
        obtain ⟨v54, k55, h⟩ := bd h
        have k55 := l_L_asks (d + 0) v52.2.1 v52.2.2.1 v52.2.2.2 (scrV q (2 * y12)) _ k55
        refine go_call (kc := 123) (Mc := mt123) (v := some (pvI v54.1)) (w' := (true, v52.2.1, v54.2.1, v54.2.2)) (pc' := 155) (st' := [pvI v54.1]) [pvR 10 0 0, pvR 12 5 129, pvI (scrV q (2 * y12))] [] (Or.inr (Or.inl rfl)) dL_law_152 rfl rm_12_168 mtE123 rfl rfl rfl (Nat.le_of_ble_eq_true rfl) (Or.inl (by decide)) k55 rfl ?_
        refine go_if_ne (t := 160) (pc' := 158) dL_law_155 rfl rfl (fun c58 => ?_) (fun c58 => ?_)
        · rw [if_pos (show v54.1 ≠ 0 from c58)] at h
          obtain ⟨g56, h⟩ := gd h
          refine go_iinc (L' := [some (pvS), some (pvR 10 0 0), some (pvR 12 5 129), some (pvI (y12 + 1)), some (pvI (scrV q (2 * y12))), some (pvI (scrV q ((2 * y12) + 1))), some (pvR 12 60 v48.1), some (pvI v52.1)]) (pc' := 163) dL_law_160 rfl rfl g56 rfl ?_
          refine go_goto (t := 71) dL_law_163 rfl ?_
          exact go_sub (ih (y12 + 1) v54.2.2 v52.2.1 v54.2.1 _ h) ⟨Or.inr rfl, Or.inr rfl, Or.inr rfl, Or.inr rfl, Or.inl rfl, Or.inl rfl, Or.inl rfl, Or.inl rfl, trivial⟩
        · rw [if_neg (show ¬ (v54.1 ≠ 0) from c58)] at h
          refine go_iconst (pc' := 159) dL_law_158 rfl (r32_c rfl) ?_
          obtain ⟨g57, h⟩ := gd h
          cases h
          exact go_zret dL_law_159 rfl g57 rfl
      · rw [if_neg (show ¬ ((-1) ≤ v52.1) from c76)] at h
        refine go_iload (pc' := 130) dL_law_128 rfl rfl ?_
        refine go_bipush (pc' := 132) dL_law_130 rfl (r32_c rfl) (by decide) ?_
        refine go_icmp_le (t := 148) (pc' := 135) dL_law_132 rfl rfl (fun c75 => ?_) (fun c75 => ?_)
        · rw [if_pos (show v52.1 ≤ (-9) from c75)] at h
          refine go_aload_n (pc' := 149) dL_law_148 rfl rfl (Nat.le_of_ble_eq_true rfl) ?_
          refine go_aload_n (pc' := 150) dL_law_149 rfl rfl (Nat.le_of_ble_eq_true rfl) ?_
          refine go_iload (pc' := 152) dL_law_150 rfl rfl ?_
          obtain ⟨v59, k60, h⟩ := bd h
          have k60 := l_L_asks (d + 0) v52.2.1 v52.2.2.1 v52.2.2.2 (scrV q (2 * y12)) _ k60
          refine go_call (kc := 123) (Mc := mt123) (v := some (pvI v59.1)) (w' := (true, v52.2.1, v59.2.1, v59.2.2)) (pc' := 155) (st' := [pvI v59.1]) [pvR 10 0 0, pvR 12 5 129, pvI (scrV q (2 * y12))] [] (Or.inr (Or.inl rfl)) dL_law_152 rfl rm_12_168 mtE123 rfl rfl rfl (Nat.le_of_ble_eq_true rfl) (Or.inl (by decide)) k60 rfl ?_
          refine go_if_ne (t := 160) (pc' := 158) dL_law_155 rfl rfl (fun c63 => ?_) (fun c63 => ?_)
          · rw [if_pos (show v59.1 ≠ 0 from c63)] at h
            obtain ⟨g61, h⟩ := gd h
            refine go_iinc (L' := [some (pvS), some (pvR 10 0 0), some (pvR 12 5 129), some (pvI (y12 + 1)), some (pvI (scrV q (2 * y12))), some (pvI (scrV q ((2 * y12) + 1))), some (pvR 12 60 v48.1), some (pvI v52.1)]) (pc' := 163) dL_law_160 rfl rfl g61 rfl ?_
            refine go_goto (t := 71) dL_law_163 rfl ?_
            exact go_sub (ih (y12 + 1) v59.2.2 v52.2.1 v59.2.1 _ h) ⟨Or.inr rfl, Or.inr rfl, Or.inr rfl, Or.inr rfl, Or.inl rfl, Or.inl rfl, Or.inl rfl, Or.inl rfl, trivial⟩
          · rw [if_neg (show ¬ (v59.1 ≠ 0) from c63)] at h
            refine go_iconst (pc' := 159) dL_law_158 rfl (r32_c rfl) ?_
            obtain ⟨g62, h⟩ := gd h
            cases h
            exact go_zret dL_law_159 rfl g62 rfl
        · rw [if_neg (show ¬ (v52.1 ≤ (-9)) from c75)] at h
          refine go_aload (pc' := 137) dL_law_135 rfl rfl (Nat.le_of_ble_eq_true rfl) ?_
          refine go_aload_n (pc' := 138) dL_law_137 rfl rfl (Nat.le_of_ble_eq_true rfl) ?_
          refine go_aload_n (pc' := 139) dL_law_138 rfl rfl (Nat.le_of_ble_eq_true rfl) ?_
          obtain ⟨v64, k65, h⟩ := bd h
          have k65 := l_L_tell (d + 1) v52.2.1 v52.2.2.1 v52.2.2.2 _ k65
          refine go_call (kc := 114) (Mc := mt114) (v := some (pvR 12 60 v64.1)) (w' := (true, v64.2.1, v52.2.2.1, v64.2.2)) (pc' := 142) (st' := [pvR 12 60 v64.1, pvR 12 60 v48.1]) [pvR 10 0 0, pvR 12 5 129] [pvR 12 60 v48.1] (Or.inr (Or.inl rfl)) dL_law_139 rfl rm_12_156 mtE114 rfl rfl rfl (Nat.le_of_ble_eq_true rfl) (Or.inl (by decide)) k65 rfl ?_
          obtain ⟨v66, k67, h⟩ := bd h
          have k67 := l_L_same (d + 243) v64.2.1 v52.2.2.1 v64.2.2 v48.1 v64.1 _ k67
          refine go_call (kc := 122) (Mc := mt122) (v := some (pvI v66)) (w' := (true, v64.2.1, v52.2.2.1, v64.2.2)) (pc' := 145) (st' := [pvI v66]) [pvR 12 60 v48.1, pvR 12 60 v64.1] [] (Or.inr (Or.inl rfl)) dL_law_142 rfl rm_12_164 mtE122 rfl rfl rfl (Nat.le_of_ble_eq_true rfl) (Or.inl (by decide)) k67 rfl ?_
          refine go_if_eq (t := 158) (pc' := 148) dL_law_145 rfl rfl (fun c74 => ?_) (fun c74 => ?_)
          · rw [if_pos (show v66 = 0 from c74)] at h
            refine go_iconst (pc' := 159) dL_law_158 rfl (r32_c rfl) ?_
            obtain ⟨g68, h⟩ := gd h
            cases h
            exact go_zret dL_law_159 rfl g68 rfl
          · rw [if_neg (show ¬ (v66 = 0) from c74)] at h
            refine go_aload_n (pc' := 149) dL_law_148 rfl rfl (Nat.le_of_ble_eq_true rfl) ?_
            refine go_aload_n (pc' := 150) dL_law_149 rfl rfl (Nat.le_of_ble_eq_true rfl) ?_
            refine go_iload (pc' := 152) dL_law_150 rfl rfl ?_
            obtain ⟨v69, k70, h⟩ := bd h
            have k70 := l_L_asks (d + 0) v64.2.1 v52.2.2.1 v64.2.2 (scrV q (2 * y12)) _ k70
            refine go_call (kc := 123) (Mc := mt123) (v := some (pvI v69.1)) (w' := (true, v64.2.1, v69.2.1, v69.2.2)) (pc' := 155) (st' := [pvI v69.1]) [pvR 10 0 0, pvR 12 5 129, pvI (scrV q (2 * y12))] [] (Or.inr (Or.inl rfl)) dL_law_152 rfl rm_12_168 mtE123 rfl rfl rfl (Nat.le_of_ble_eq_true rfl) (Or.inl (by decide)) k70 rfl ?_
            refine go_if_ne (t := 160) (pc' := 158) dL_law_155 rfl rfl (fun c73 => ?_) (fun c73 => ?_)
            · rw [if_pos (show v69.1 ≠ 0 from c73)] at h
              obtain ⟨g71, h⟩ := gd h
              refine go_iinc (L' := [some (pvS), some (pvR 10 0 0), some (pvR 12 5 129), some (pvI (y12 + 1)), some (pvI (scrV q (2 * y12))), some (pvI (scrV q ((2 * y12) + 1))), some (pvR 12 60 v48.1), some (pvI v52.1)]) (pc' := 163) dL_law_160 rfl rfl g71 rfl ?_
              refine go_goto (t := 71) dL_law_163 rfl ?_
              exact go_sub (ih (y12 + 1) v69.2.2 v64.2.1 v69.2.1 _ h) ⟨Or.inr rfl, Or.inr rfl, Or.inr rfl, Or.inr rfl, Or.inl rfl, Or.inl rfl, Or.inl rfl, Or.inl rfl, trivial⟩
            · rw [if_neg (show ¬ (v69.1 ≠ 0) from c73)] at h
              refine go_iconst (pc' := 159) dL_law_158 rfl (r32_c rfl) ?_
              obtain ⟨g72, h⟩ := gd h
              cases h
              exact go_zret dL_law_159 rfl g72 rfl

set_option maxRecDepth 10000 in
theorem l_L_law_14 (q : Nat × (Nat → Int32)) (d : Nat) (n : Nat) (e : Nat) (q : Nat × (Nat → Int32)) : ∀ (F : Nat) (y1 : Int) (σ2 : Hp) (e3 : Nat) (r : Int × Nat × Nat × Hp), f_L_law_14 q n F y1 σ2 e3 = some r → Go (some q) (Ev (d + 244)) mt163 14 [some (pvS), some (pvR 10 0 0), some (pvR 12 5 129), some (pvI y1), none, none, none, none] [] (true, n, e3, σ2) (0, some (pvI r.1), true, r.2.1, r.2.2.1, r.2.2.2) := by
  intro F
  induction F with
  | zero =>
    intro _ _ _ _ h
    rw [f_L_law_14] at h
    cases h
  | succ F ih =>
    intro y1 σ2 e3 r h
    rw [f_L_law_14] at h
    refine go_iload_n (pc' := 15) dL_law_14 rfl rfl ?_
    refine go_iconst (pc' := 16) dL_law_15 rfl (r32_c rfl) ?_
    refine go_icmp_ge (t := 42) (pc' := 19) dL_law_16 rfl rfl (fun c88 => ?_) (fun c88 => ?_)
    · rw [if_pos (show 3 ≤ y1 from c88)] at h
      refine go_aload_n (pc' := 43) dL_law_42 rfl rfl (Nat.le_of_ble_eq_true rfl) ?_
      refine go_iconst (pc' := 44) dL_law_43 rfl (r32_c rfl) ?_
      refine go_iconst (pc' := 45) dL_law_44 rfl (r32_c rfl) ?_
      obtain ⟨g4, h⟩ := gd h
      refine go_iast (pc' := 46) dL_law_45 rfl g4 ?_
      refine go_aload_n (pc' := 47) dL_law_46 rfl rfl (Nat.le_of_ble_eq_true rfl) ?_
      refine go_iconst (pc' := 48) dL_law_47 rfl (r32_c rfl) ?_
      refine go_iconst (pc' := 49) dL_law_48 rfl (r32_c rfl) ?_
      refine go_iconst (pc' := 50) dL_law_49 rfl (r32_c rfl) ?_
      obtain ⟨v5, k6, h⟩ := bd h
      obtain ⟨g7, h⟩ := gd h
      have k6 := l_C_measure (d + 241) n e3 (hset σ2 129 3 2) 0 0 0 _ k6
      rw [g7] at k6
      refine go_call (kc := 36) (Mc := mt36) (v := some (pvI v5.2.1)) (w' := (true, n, e3, v5.2.2)) (pc' := 53) (st' := [pvI v5.2.1]) [pvR 10 0 0, pvI 0, pvI 0, pvI 0] [] (Or.inl rfl) dL_law_50 rfl rm_12_35 mtE36 rfl rfl rfl (Nat.le_of_ble_eq_true rfl) (Or.inr ⟨_, _, 0, rfl, Or.inl rfl⟩) k6 rfl ?_
      refine go_if_ne (t := 67) (pc' := 56) dL_law_53 rfl rfl (fun c80 => ?_) (fun c80 => ?_)
      · rw [if_pos (show v5.2.1 ≠ 0 from c80)] at h
        refine go_iconst (pc' := 68) dL_law_67 rfl (r32_c rfl) ?_
        obtain ⟨g8, h⟩ := gd h
        cases h
        exact go_zret dL_law_68 rfl g8 rfl
      · rw [if_neg (show ¬ (v5.2.1 ≠ 0) from c80)] at h
        refine go_aload_n (pc' := 57) dL_law_56 rfl rfl (Nat.le_of_ble_eq_true rfl) ?_
        refine go_iconst (pc' := 58) dL_law_57 rfl (r32_c rfl) ?_
        refine go_iconst (pc' := 59) dL_law_58 rfl (r32_c rfl) ?_
        refine go_iconst (pc' := 60) dL_law_59 rfl (r32_c rfl) ?_
        obtain ⟨v9, k10, h⟩ := bd h
        obtain ⟨g11, h⟩ := gd h
        have k10 := l_C_measure (d + 241) n e3 v5.2.2 1 0 0 _ k10
        rw [g11] at k10
        refine go_call (kc := 36) (Mc := mt36) (v := some (pvI v9.2.1)) (w' := (true, n, e3, v9.2.2)) (pc' := 63) (st' := [pvI v9.2.1]) [pvR 10 0 0, pvI 1, pvI 0, pvI 0] [] (Or.inl rfl) dL_law_60 rfl rm_12_35 mtE36 rfl rfl rfl (Nat.le_of_ble_eq_true rfl) (Or.inr ⟨_, _, 0, rfl, Or.inl rfl⟩) k10 rfl ?_
        refine go_iconst (pc' := 64) dL_law_63 rfl (r32_c rfl) ?_
        refine go_icmp_eq (t := 69) (pc' := 67) dL_law_64 rfl rfl (fun c79 => ?_) (fun c79 => ?_)
        · rw [if_pos (show v9.2.1 = 1 from c79)] at h
          refine go_iconst (pc' := 70) dL_law_69 rfl (r32_c rfl) ?_
          refine go_istore_n (L' := [some (pvS), some (pvR 10 0 0), some (pvR 12 5 129), some (pvI 0), none, none, none, none]) (pc' := 71) dL_law_70 rfl (Nat.le_of_ble_eq_true rfl) rfl ?_
          exact l_L_law_71 q d n e3 q zFuel 0 v9.2.2 n e3 _ h
        · rw [if_neg (show ¬ (v9.2.1 = 1) from c79)] at h
          refine go_iconst (pc' := 68) dL_law_67 rfl (r32_c rfl) ?_
          obtain ⟨g78, h⟩ := gd h
          cases h
          exact go_zret dL_law_68 rfl g78 rfl
    · rw [if_neg (show ¬ (3 ≤ y1) from c88)] at h
      refine go_aload_n (pc' := 20) dL_law_19 rfl rfl (Nat.le_of_ble_eq_true rfl) ?_
      refine go_iload_n (pc' := 21) dL_law_20 rfl rfl ?_
      refine go_iconst (pc' := 22) dL_law_21 rfl (r32_c rfl) ?_
      obtain ⟨g81, h⟩ := gd h
      refine go_iast (pc' := 23) dL_law_22 rfl g81 ?_
      refine go_aload_n (pc' := 24) dL_law_23 rfl rfl (Nat.le_of_ble_eq_true rfl) ?_
      refine go_iload_n (pc' := 25) dL_law_24 rfl rfl ?_
      refine go_iconst (pc' := 26) dL_law_25 rfl (r32_c rfl) ?_
      refine go_iconst (pc' := 27) dL_law_26 rfl (r32_c rfl) ?_
      obtain ⟨v82, k83, h⟩ := bd h
      obtain ⟨g84, h⟩ := gd h
      have k83 := l_C_member (d + 237) n e3 (hset σ2 129 y1 2) y1 0 1 _ k83
      rw [g84] at k83
      refine go_call (kc := 12) (Mc := mt12) (v := some (pvI v82.2.1)) (w' := (true, n, e3, v82.2.2)) (pc' := 30) (st' := [pvI v82.2.1]) [pvR 10 0 0, pvI y1, pvI 0, pvI 1] [] (Or.inl rfl) dL_law_27 rfl rm_12_9 mtE12 rfl rfl rfl (Nat.le_of_ble_eq_true rfl) (Or.inr ⟨_, _, 0, rfl, Or.inl rfl⟩) k83 rfl ?_
      refine go_iconst (pc' := 31) dL_law_30 rfl (r32_c rfl) ?_
      refine go_icmp_eq (t := 36) (pc' := 34) dL_law_31 rfl rfl (fun c87 => ?_) (fun c87 => ?_)
      · rw [if_pos (show v82.2.1 = 1 from c87)] at h
        obtain ⟨g85, h⟩ := gd h
        refine go_iinc (L' := [some (pvS), some (pvR 10 0 0), some (pvR 12 5 129), some (pvI (y1 + 1)), none, none, none, none]) (pc' := 39) dL_law_36 rfl rfl g85 rfl ?_
        refine go_goto (t := 14) dL_law_39 rfl ?_
        exact ih (y1 + 1) v82.2.2 e3 _ h
      · rw [if_neg (show ¬ (v82.2.1 = 1) from c87)] at h
        refine go_iconst (pc' := 35) dL_law_34 rfl (r32_c rfl) ?_
        obtain ⟨g86, h⟩ := gd h
        cases h
        exact go_zret dL_law_35 rfl g86 rfl

set_option maxRecDepth 10000 in
theorem l_L_law (q : Nat × (Nat → Int32)) (d n e : Nat) (σ : Hp) (r : Int × Nat × Nat × Hp) (h : f_L_law q σ n e = some r) : Go (some q) (Ev (d + 244)) mt163 12 [some (pvS), some (pvR 10 0 0), some (pvR 12 5 129), none, none, none, none, none] [] (true, n, e, σ) (0, some (pvI r.1), true, r.2.1, r.2.2.1, r.2.2.2) := by
  unfold f_L_law at h
  refine go_iconst (pc' := 13) dL_law_12 rfl (r32_c rfl) ?_
  refine go_istore_n (L' := [some (pvS), some (pvR 10 0 0), some (pvR 12 5 129), some (pvI 0), none, none, none, none]) (pc' := 14) dL_law_13 rfl (Nat.le_of_ble_eq_true rfl) rfl ?_
  exact l_L_law_14 q d n e q zFuel 0 σ e _ h

