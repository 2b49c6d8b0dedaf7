/-! ===== links: each function is what its bytecode does ===== -/
set_option maxRecDepth 10000 in
theorem l_L_law_71 (q : Nat × (Nat → Int32)) (d : Nat) (n : Nat) (e : Nat) (q : Nat × (Nat → Int32)) : ∀ (F : Nat) (y13 : Int) (σ14 : Hp) (n16 : Nat) (e15 : Nat) (r : Int × Nat × Nat × Hp), f_L_law_71 q F y13 σ14 n16 e15 = some r → Go (some q) (Ev (d + 244)) mt163 71 [some (pvS), some (pvR 10 0 0), some (pvR 12 5 129), some (pvI y13), none, none, none, none] [] (true, n16, e15, σ14) (0, some (pvI r.1), true, r.2.1, r.2.2.1, r.2.2.2) := by
  intro F
  induction F with
  | zero =>
    intro _ _ _ _ _ h
    rw [f_L_law_71] at h
    cases h
  | succ F ih =>
    intro y13 σ14 n16 e15 r h
    rw [f_L_law_71] at h
    refine go_iload_n (pc' := 72) dL_law_71 rfl rfl ?_
    refine go_bipush (pc' := 74) dL_law_72 rfl (r32_c rfl) (by decide) ?_
    refine go_icmp_ge (t := 166) (pc' := 77) dL_law_74 rfl rfl (fun c78 => ?_) (fun c78 => ?_)
    · rw [if_pos (show 36 ≤ y13 from c78)] at h
      refine go_aload_n (pc' := 167) dL_law_166 rfl rfl (Nat.le_of_ble_eq_true rfl) ?_
      refine go_iconst (pc' := 168) dL_law_167 rfl (r32_c rfl) ?_
      refine go_iconst (pc' := 169) dL_law_168 rfl (r32_c rfl) ?_
      refine go_iconst (pc' := 170) dL_law_169 rfl (r32_c rfl) ?_
      obtain ⟨v17, k18, h⟩ := bd h
      have k18 := l_L_members (d + 236) n16 e15 σ14 3 0 1 _ k18
      refine go_call (kc := 42) (Mc := mt42) (v := some (pvI v17.1)) (w' := (true, n16, v17.2.1, v17.2.2)) (pc' := 173) (st' := [pvI v17.1]) [pvR 10 0 0, pvI 3, pvI 0, pvI 1] [] (Or.inr (Or.inl rfl)) dL_law_170 rfl rm_12_100 mtE42 rfl rfl rfl (Nat.le_of_ble_eq_true rfl) (Or.inl (by decide)) k18 rfl ?_
      refine go_bipush (pc' := 175) dL_law_173 rfl (r32_c rfl) (by decide) ?_
      obtain ⟨j19, k20, h⟩ := bd h
      have k20J : Go (some q) (Ev (d + 244)) mt163 274 [some (pvS), some (pvR 10 0 0), some (pvR 12 5 129), some (pvI y13), none, none, none, none] [pvI j19.1] (true, j19.2.2.1, j19.2.2.2, j19.2.1) (0, some (pvI r.1), true, r.2.1, r.2.2.1, r.2.2.2) := by
        obtain ⟨g42, h⟩ := gd h
        cases h
        exact go_zret dL_law_274 rfl g42 rfl
      clear h
      have h := k20
      refine go_icmp_ne (t := 273) (pc' := 178) dL_law_175 rfl rfl (fun c43 => ?_) (fun c43 => ?_)
      · rw [if_pos (show v17.1 ≠ (-2) from c43)] at h
        refine go_iconst (pc' := 274) dL_law_273 rfl (r32_c rfl) ?_
        cases h
        exact k20J
      · rw [if_neg (show ¬ (v17.1 ≠ (-2)) from c43)] at h
        refine go_aload_n (pc' := 179) dL_law_178 rfl rfl (Nat.le_of_ble_eq_true rfl) ?_
        refine go_iconst (pc' := 180) dL_law_179 rfl (r32_c rfl) ?_
        refine go_iconst (pc' := 181) dL_law_180 rfl (r32_c rfl) ?_
        obtain ⟨v21, k22, h⟩ := bd h
        have k22 := l_L_bridges (d + 236) n16 v17.2.1 v17.2.2 0 0 _ k22
        refine go_call (kc := 43) (Mc := mt43) (v := some (pvI v21.1)) (w' := (true, n16, v21.2.1, v21.2.2)) (pc' := 184) (st' := [pvI v21.1]) [pvR 10 0 0, pvI 0, pvI 0] [] (Or.inr (Or.inl rfl)) dL_law_181 rfl rm_12_104 mtE43 rfl rfl rfl (Nat.le_of_ble_eq_true rfl) (Or.inl (by decide)) k22 rfl ?_
        refine go_bipush (pc' := 186) dL_law_184 rfl (r32_c rfl) (by decide) ?_
        refine go_icmp_ne (t := 273) (pc' := 189) dL_law_186 rfl rfl (fun c41 => ?_) (fun c41 => ?_)
        · rw [if_pos (show v21.1 ≠ (-3) from c41)] at h
          refine go_iconst (pc' := 274) dL_law_273 rfl (r32_c rfl) ?_
          cases h
          exact k20J
        · rw [if_neg (show ¬ (v21.1 ≠ (-3)) from c41)] at h
          refine go_aload_n (pc' := 190) dL_law_189 rfl rfl (Nat.le_of_ble_eq_true rfl) ?_
          refine go_iconst (pc' := 191) dL_law_190 rfl (r32_c rfl) ?_
          refine go_iconst (pc' := 192) dL_law_191 rfl (r32_c rfl) ?_
          refine go_iconst (pc' := 193) dL_law_192 rfl (r32_c rfl) ?_
          obtain ⟨v23, k24, h⟩ := bd h
          have k24 := l_L_measures (d + 240) n16 v21.2.1 v21.2.2 4 0 0 _ k24
          refine go_call (kc := 56) (Mc := mt56) (v := some (pvI v23.1)) (w' := (true, n16, v23.2.1, v23.2.2)) (pc' := 196) (st' := [pvI v23.1]) [pvR 10 0 0, pvI 4, pvI 0, pvI 0] [] (Or.inr (Or.inl rfl)) dL_law_193 rfl rm_12_129 mtE56 rfl rfl rfl (Nat.le_of_ble_eq_true rfl) (Or.inl (by decide)) k24 rfl ?_
          refine go_bipush (pc' := 198) dL_law_196 rfl (r32_c rfl) (by decide) ?_
          refine go_icmp_ne (t := 273) (pc' := 201) dL_law_198 rfl rfl (fun c40 => ?_) (fun c40 => ?_)
          · rw [if_pos (show v23.1 ≠ (-3) from c40)] at h
            refine go_iconst (pc' := 274) dL_law_273 rfl (r32_c rfl) ?_
            cases h
            exact k20J
          · rw [if_neg (show ¬ (v23.1 ≠ (-3)) from c40)] at h
            refine go_aload_n (pc' := 202) dL_law_201 rfl rfl (Nat.le_of_ble_eq_true rfl) ?_
            refine go_bipush (pc' := 204) dL_law_202 rfl (r32_c rfl) (by decide) ?_
            refine go_iconst (pc' := 205) dL_law_204 rfl (r32_c rfl) ?_
            refine go_iconst (pc' := 206) dL_law_205 rfl (r32_c rfl) ?_
            obtain ⟨v25, k26, h⟩ := bd h
            have k26 := l_L_words (d + 241) n16 v23.2.1 v23.2.2 7 0 0 _ k26
            refine go_call (kc := 48) (Mc := mt48) (v := some (pvI v25.1)) (w' := (true, n16, v25.2.1, v25.2.2)) (pc' := 209) (st' := [pvI v25.1]) [pvR 10 0 0, pvI 7, pvI 0, pvI 0] [] (Or.inr (Or.inl rfl)) dL_law_206 rfl rm_12_123 mtE48 rfl rfl rfl (Nat.le_of_ble_eq_true rfl) (Or.inl (by decide)) k26 rfl ?_
            refine go_bipush (pc' := 211) dL_law_209 rfl (r32_c rfl) (by decide) ?_
            refine go_icmp_ne (t := 273) (pc' := 214) dL_law_211 rfl rfl (fun c39 => ?_) (fun c39 => ?_)
            · rw [if_pos (show v25.1 ≠ (-3) from c39)] at h
              refine go_iconst (pc' := 274) dL_law_273 rfl (r32_c rfl) ?_
              cases h
              exact k20J
            · rw [if_neg (show ¬ (v25.1 ≠ (-3)) from c39)] at h
              refine go_aload_n (pc' := 215) dL_law_214 rfl rfl (Nat.le_of_ble_eq_true rfl) ?_
              refine go_bipush (pc' := 217) dL_law_215 rfl (r32_c rfl) (by decide) ?_
              refine go_iconst (pc' := 218) dL_law_217 rfl (r32_c rfl) ?_
              refine go_iconst (pc' := 219) dL_law_218 rfl (r32_c rfl) ?_
              refine go_iconst (pc' := 220) dL_law_219 rfl (r32_c rfl) ?_
              refine go_iconst (pc' := 221) dL_law_220 rfl (r32_c rfl) ?_
              obtain ⟨v27, k28, h⟩ := bd h
              have k28 := l_L_facts (d + 236) n16 v25.2.1 v25.2.2 12 0 0 0 0 _ k28
              refine go_call (kc := 57) (Mc := mt57) (v := some (pvI v27.1)) (w' := (true, n16, v27.2.1, v27.2.2)) (pc' := 224) (st' := [pvI v27.1]) [pvR 10 0 0, pvI 12, pvI 0, pvI 0, pvI 0, pvI 0] [] (Or.inr (Or.inl rfl)) dL_law_221 rfl rm_12_151 mtE57 rfl rfl rfl (Nat.le_of_ble_eq_true rfl) (Or.inl (by decide)) k28 rfl ?_
              refine go_bipush (pc' := 226) dL_law_224 rfl (r32_c rfl) (by decide) ?_
              refine go_icmp_ne (t := 273) (pc' := 229) dL_law_226 rfl rfl (fun c38 => ?_) (fun c38 => ?_)
              · rw [if_pos (show v27.1 ≠ (-2) from c38)] at h
                refine go_iconst (pc' := 274) dL_law_273 rfl (r32_c rfl) ?_
                cases h
                exact k20J
              · rw [if_neg (show ¬ (v27.1 ≠ (-2)) from c38)] at h
                refine go_aload_n (pc' := 230) dL_law_229 rfl rfl (Nat.le_of_ble_eq_true rfl) ?_
                refine go_iconst (pc' := 231) dL_law_230 rfl (r32_c rfl) ?_
                refine go_iconst (pc' := 232) dL_law_231 rfl (r32_c rfl) ?_
                refine go_iconst (pc' := 233) dL_law_232 rfl (r32_c rfl) ?_
                refine go_iconst (pc' := 234) dL_law_233 rfl (r32_c rfl) ?_
                refine go_iconst (pc' := 235) dL_law_234 rfl (r32_c rfl) ?_
                obtain ⟨v29, k30, h⟩ := bd h
                have k30 := l_L_picks (d + 1) n16 v27.2.1 v27.2.2 0 3 0 0 0 _ k30
                refine go_call (kc := 83) (Mc := mt83) (v := some (pvI v29.1)) (w' := (true, n16, v29.2.1, v29.2.2)) (pc' := 238) (st' := [pvI v29.1]) [pvR 10 0 0, pvI 0, pvI 3, pvI 0, pvI 0, pvI 0] [] (Or.inr (Or.inl rfl)) dL_law_235 rfl rm_12_88 mtE83 rfl rfl rfl (Nat.le_of_ble_eq_true rfl) (Or.inl (by decide)) k30 rfl ?_
                refine go_bipush (pc' := 240) dL_law_238 rfl (r32_c rfl) (by decide) ?_
                refine go_icmp_ne (t := 273) (pc' := 243) dL_law_240 rfl rfl (fun c37 => ?_) (fun c37 => ?_)
                · rw [if_pos (show v29.1 ≠ (-3) from c37)] at h
                  refine go_iconst (pc' := 274) dL_law_273 rfl (r32_c rfl) ?_
                  cases h
                  exact k20J
                · rw [if_neg (show ¬ (v29.1 ≠ (-3)) from c37)] at h
                  refine go_aload_n (pc' := 244) dL_law_243 rfl rfl (Nat.le_of_ble_eq_true rfl) ?_
                  refine go_iconst (pc' := 245) dL_law_244 rfl (r32_c rfl) ?_
                  refine go_iconst (pc' := 246) dL_law_245 rfl (r32_c rfl) ?_
                  refine go_bipush (pc' := 248) dL_law_246 rfl (r32_c rfl) (by decide) ?_
                  refine go_iconst (pc' := 249) dL_law_248 rfl (r32_c rfl) ?_
                  refine go_iconst (pc' := 250) dL_law_249 rfl (r32_c rfl) ?_
                  obtain ⟨v31, k32, h⟩ := bd h
                  have k32 := l_L_picks (d + 1) n16 v29.2.1 v29.2.2 0 2 12 0 0 _ k32
                  refine go_call (kc := 83) (Mc := mt83) (v := some (pvI v31.1)) (w' := (true, n16, v31.2.1, v31.2.2)) (pc' := 253) (st' := [pvI v31.1]) [pvR 10 0 0, pvI 0, pvI 2, pvI 12, pvI 0, pvI 0] [] (Or.inr (Or.inl rfl)) dL_law_250 rfl rm_12_88 mtE83 rfl rfl rfl (Nat.le_of_ble_eq_true rfl) (Or.inl (by decide)) k32 rfl ?_
                  refine go_bipush (pc' := 255) dL_law_253 rfl (r32_c rfl) (by decide) ?_
                  refine go_icmp_ne (t := 273) (pc' := 258) dL_law_255 rfl rfl (fun c36 => ?_) (fun c36 => ?_)
                  · rw [if_pos (show v31.1 ≠ (-3) from c36)] at h
                    refine go_iconst (pc' := 274) dL_law_273 rfl (r32_c rfl) ?_
                    cases h
                    exact k20J
                  · rw [if_neg (show ¬ (v31.1 ≠ (-3)) from c36)] at h
                    refine go_aload_n (pc' := 259) dL_law_258 rfl rfl (Nat.le_of_ble_eq_true rfl) ?_
                    refine go_iconst (pc' := 260) dL_law_259 rfl (r32_c rfl) ?_
                    refine go_iconst (pc' := 261) dL_law_260 rfl (r32_c rfl) ?_
                    obtain ⟨v33, k34, h⟩ := bd h
                    have k34 := l_L_calculates (d + 240) n16 v31.2.1 v31.2.2 3 0 _ k34
                    refine go_call (kc := 52) (Mc := mt52) (v := some (pvI v33.1)) (w' := (true, v33.2.1, v33.2.2.1, v33.2.2.2)) (pc' := 264) (st' := [pvI v33.1]) [pvR 10 0 0, pvI 3, pvI 0] [] (Or.inr (Or.inl rfl)) dL_law_261 rfl rm_12_126 mtE52 rfl rfl rfl (Nat.le_of_ble_eq_true rfl) (Or.inl (by decide)) k34 rfl ?_
                    refine go_bipush (pc' := 266) dL_law_264 rfl (r32_c rfl) (by decide) ?_
                    refine go_icmp_ne (t := 273) (pc' := 269) dL_law_266 rfl rfl (fun c35 => ?_) (fun c35 => ?_)
                    · rw [if_pos (show v33.1 ≠ (-2) from c35)] at h
                      refine go_iconst (pc' := 274) dL_law_273 rfl (r32_c rfl) ?_
                      cases h
                      exact k20J
                    · rw [if_neg (show ¬ (v33.1 ≠ (-2)) from c35)] at h
                      refine go_iconst (pc' := 270) dL_law_269 rfl (r32_c rfl) ?_
                      refine go_goto (t := 274) dL_law_270 rfl ?_
                      cases h
                      exact k20J
    · rw [if_neg (show ¬ (36 ≤ y13) from c78)] at h
      refine go_aload_n (pc' := 78) dL_law_77 rfl rfl (Nat.le_of_ble_eq_true rfl) ?_
      refine go_iconst (pc' := 79) dL_law_78 rfl (r32_c rfl) ?_
      refine go_iload_n (pc' := 80) dL_law_79 rfl rfl ?_
      obtain ⟨g44, h⟩ := gd h
      refine go_imul (pc' := 81) dL_law_80 rfl g44 ?_
      obtain ⟨g45, h⟩ := gd h
      refine go_scr (q := q) (k := (2 * y13)) (r := []) rfl dL_law_81 rfl rm_12_154 rfl (Nat.le_of_ble_eq_true rfl) g45 ?_
      refine go_istore (L' := [some (pvS), some (pvR 10 0 0), some (pvR 12 5 129), some (pvI y13), some (pvI (scrV q (2 * y13))), none, none, none]) (pc' := 86) dL_law_84 rfl (Nat.le_of_ble_eq_true rfl) rfl ?_
      refine go_aload_n (pc' := 87) dL_law_86 rfl rfl (Nat.le_of_ble_eq_true rfl) ?_
      refine go_iconst (pc' := 88) dL_law_87 rfl (r32_c rfl) ?_
      refine go_iload_n (pc' := 89) dL_law_88 rfl rfl ?_
      obtain ⟨g46, h⟩ := gd h
      refine go_imul (pc' := 90) dL_law_89 rfl g46 ?_
      refine go_iconst (pc' := 91) dL_law_90 rfl (r32_c rfl) ?_
      obtain ⟨g47, h⟩ := gd h
      refine go_iadd (pc' := 92) dL_law_91 rfl g47 ?_
      obtain ⟨g48, h⟩ := gd h
      refine go_scr (q := q) (k := ((2 * y13) + 1)) (r := []) rfl dL_law_92 rfl rm_12_154 rfl (Nat.le_of_ble_eq_true rfl) g48 ?_
      refine go_istore (L' := [some (pvS), some (pvR 10 0 0), some (pvR 12 5 129), some (pvI y13), some (pvI (scrV q (2 * y13))), some (pvI (scrV q ((2 * y13) + 1))), none, none]) (pc' := 97) dL_law_95 rfl (Nat.le_of_ble_eq_true rfl) rfl ?_
      refine go_aload_n (pc' := 98) dL_law_97 rfl rfl (Nat.le_of_ble_eq_true rfl) ?_
      refine go_aload_n (pc' := 99) dL_law_98 rfl rfl (Nat.le_of_ble_eq_true rfl) ?_
      obtain ⟨v49, k50, h⟩ := bd h
      have k50 := l_L_tell (d + 1) n16 e15 σ14 _ k50
      refine go_call (kc := 114) (Mc := mt114) (v := some (pvR 12 60 v49.1)) (w' := (true, v49.2.1, e15, v49.2.2)) (pc' := 102) (st' := [pvR 12 60 v49.1]) [pvR 10 0 0, pvR 12 5 129] [] (Or.inr (Or.inl rfl)) dL_law_99 rfl rm_12_156 mtE114 rfl rfl rfl (Nat.le_of_ble_eq_true rfl) (Or.inl (by decide)) k50 rfl ?_
      refine go_astore (L' := [some (pvS), some (pvR 10 0 0), some (pvR 12 5 129), some (pvI y13), some (pvI (scrV q (2 * y13))), some (pvI (scrV q ((2 * y13) + 1))), some (pvR 12 60 v49.1), none]) (pc' := 104) dL_law_102 rfl (Nat.le_of_ble_eq_true rfl) (Nat.le_of_ble_eq_true rfl) rfl ?_
      refine go_aload_n (pc' := 105) dL_law_104 rfl rfl (Nat.le_of_ble_eq_true rfl) ?_
      refine go_aload_n (pc' := 106) dL_law_105 rfl rfl (Nat.le_of_ble_eq_true rfl) ?_
      refine go_iload (pc' := 108) dL_law_106 rfl rfl ?_
      refine go_iload (pc' := 110) dL_law_108 rfl rfl ?_
      refine go_iconst (pc' := 111) dL_law_110 rfl (r32_c rfl) ?_
      refine go_ishr (pc' := 112) dL_law_111 rfl ?_
      refine go_bipush (pc' := 114) dL_law_112 rfl (r32_c rfl) (by decide) ?_
      obtain ⟨v51, k52, h⟩ := bd h
      have k52 := l_L_low (d + 243) v49.2.1 e15 v49.2.2 (ishr (scrV q (2 * y13)) 3) 17 _ k52
      refine go_call (kc := 41) (Mc := mt41) (v := some (pvI v51)) (w' := (true, v49.2.1, e15, v49.2.2)) (pc' := 117) (st' := [pvI v51, pvI (scrV q ((2 * y13) + 1)), pvR 12 5 129, pvR 10 0 0]) [pvI (ishr (scrV q (2 * y13)) 3), pvI 17] [pvI (scrV q ((2 * y13) + 1)), pvR 12 5 129, pvR 10 0 0] (Or.inr (Or.inl rfl)) dL_law_114 rfl rm_12_59 mtE41 rfl rfl rfl (Nat.le_of_ble_eq_true rfl) (Or.inl (by decide)) k52 rfl ?_
      obtain ⟨v53, k54, h⟩ := bd h
      have k54 := l_L_act (d + 234) v49.2.1 e15 v49.2.2 (scrV q ((2 * y13) + 1)) v51 _ k54
      refine go_call (kc := 131) (Mc := mt131) (v := some (pvI v53.1)) (w' := (true, v53.2.1, v53.2.2.1, v53.2.2.2)) (pc' := 120) (st' := [pvI v53.1]) [pvR 10 0 0, pvR 12 5 129, pvI (scrV q ((2 * y13) + 1)), pvI v51] [] (Or.inr (Or.inl rfl)) dL_law_117 rfl rm_12_160 mtE131 rfl rfl rfl (Nat.le_of_ble_eq_true rfl) (Or.inl (by decide)) k54 rfl ?_
      refine go_istore (L' := [some (pvS), some (pvR 10 0 0), some (pvR 12 5 129), some (pvI y13), some (pvI (scrV q (2 * y13))), some (pvI (scrV q ((2 * y13) + 1))), some (pvR 12 60 v49.1), some (pvI v53.1)]) (pc' := 122) dL_law_120 rfl (Nat.le_of_ble_eq_true rfl) rfl ?_
      refine go_iload (pc' := 124) dL_law_122 rfl rfl ?_
      refine go_iconst (pc' := 125) dL_law_124 rfl (r32_c rfl) ?_
      refine go_icmp_ge (t := 148) (pc' := 128) dL_law_125 rfl rfl (fun c77 => ?_) (fun c77 => ?_)
      · rw [if_pos (show (-1) ≤ v53.1 from c77)] at h
        refine go_aload_n (pc' := 149) dL_law_148 rfl rfl (Nat.le_of_ble_eq_true rfl) ?_
        refine go_aload_n (pc' := 150) dL_law_149 rfl rfl (Nat.le_of_ble_eq_true rfl) ?_
        refine go_iload (pc' := 152) dL_law_150 rfl rfl ?_
        obtain ⟨v55, k56, h⟩ := bd h
        have k56 := l_L_asks (d + 0) v53.2.1 v53.2.2.1 v53.2.2.2 (scrV q (2 * y13)) _ k56
        refine go_call (kc := 123) (Mc := mt123) (v := some (pvI v55.1)) (w' := (true, v53.2.1, v55.2.1, v55.2.2)) (pc' := 155) (st' := [pvI v55.1]) [pvR 10 0 0, pvR 12 5 129, pvI (scrV q (2 * y13))] [] (Or.inr (Or.inl rfl)) dL_law_152 rfl rm_12_168 mtE123 rfl rfl rfl (Nat.le_of_ble_eq_true rfl) (Or.inl (by decide)) k56 rfl ?_
        refine go_if_ne (t := 160) (pc' := 158) dL_law_155 rfl rfl (fun c59 => ?_) (fun c59 => ?_)
        · rw [if_pos (show v55.1 ≠ 0 from c59)] at h
          obtain ⟨g57, h⟩ := gd h
          refine go_iinc (L' := [some (pvS), some (pvR 10 0 0), some (pvR 12 5 129), some (pvI (y13 + 1)), some (pvI (scrV q (2 * y13))), some (pvI (scrV q ((2 * y13) + 1))), some (pvR 12 60 v49.1), some (pvI v53.1)]) (pc' := 163) dL_law_160 rfl rfl g57 rfl ?_
          refine go_goto (t := 71) dL_law_163 rfl ?_
          exact go_sub (ih (y13 + 1) v55.2.2 v53.2.1 v55.2.1 _ h) ⟨Or.inr rfl, Or.inr rfl, Or.inr rfl, Or.inr rfl, Or.inl rfl, Or.inl rfl, Or.inl rfl, Or.inl rfl, trivial⟩
        · rw [if_neg (show ¬ (v55.1 ≠ 0) from c59)] at h
          refine go_iconst (pc' := 159) dL_law_158 rfl (r32_c rfl) ?_
          obtain ⟨g58, h⟩ := gd h
          cases h
          exact go_zret dL_law_159 rfl g58 rfl
      · rw [if_neg (show ¬ ((-1) ≤ v53.1) from c77)] at h
        refine go_iload (pc' := 130) dL_law_128 rfl rfl ?_
        refine go_bipush (pc' := 132) dL_law_130 rfl (r32_c rfl) (by decide) ?_
        refine go_icmp_le (t := 148) (pc' := 135) dL_law_132 rfl rfl (fun c76 => ?_) (fun c76 => ?_)
        · rw [if_pos (show v53.1 ≤ (-9) from c76)] at h
          refine go_aload_n (pc' := 149) dL_law_148 rfl rfl (Nat.le_of_ble_eq_true rfl) ?_
          refine go_aload_n (pc' := 150) dL_law_149 rfl rfl (Nat.le_of_ble_eq_true rfl) ?_
          refine go_iload (pc' := 152) dL_law_150 rfl rfl ?_
          obtain ⟨v60, k61, h⟩ := bd h
          have k61 := l_L_asks (d + 0) v53.2.1 v53.2.2.1 v53.2.2.2 (scrV q (2 * y13)) _ k61
          refine go_call (kc := 123) (Mc := mt123) (v := some (pvI v60.1)) (w' := (true, v53.2.1, v60.2.1, v60.2.2)) (pc' := 155) (st' := [pvI v60.1]) [pvR 10 0 0, pvR 12 5 129, pvI (scrV q (2 * y13))] [] (Or.inr (Or.inl rfl)) dL_law_152 rfl rm_12_168 mtE123 rfl rfl rfl (Nat.le_of_ble_eq_true rfl) (Or.inl (by decide)) k61 rfl ?_
          refine go_if_ne (t := 160) (pc' := 158) dL_law_155 rfl rfl (fun c64 => ?_) (fun c64 => ?_)
          · rw [if_pos (show v60.1 ≠ 0 from c64)] at h
            obtain ⟨g62, h⟩ := gd h
            refine go_iinc (L' := [some (pvS), some (pvR 10 0 0), some (pvR 12 5 129), some (pvI (y13 + 1)), some (pvI (scrV q (2 * y13))), some (pvI (scrV q ((2 * y13) + 1))), some (pvR 12 60 v49.1), some (pvI v53.1)]) (pc' := 163) dL_law_160 rfl rfl g62 rfl ?_
            refine go_goto (t := 71) dL_law_163 rfl ?_
            exact go_sub (ih (y13 + 1) v60.2.2 v53.2.1 v60.2.1 _ h) ⟨Or.inr rfl, Or.inr rfl, Or.inr rfl, Or.inr rfl, Or.inl rfl, Or.inl rfl, Or.inl rfl, Or.inl rfl, trivial⟩
          · rw [if_neg (show ¬ (v60.1 ≠ 0) from c64)] at h
            refine go_iconst (pc' := 159) dL_law_158 rfl (r32_c rfl) ?_
            obtain ⟨g63, h⟩ := gd h
            cases h
            exact go_zret dL_law_159 rfl g63 rfl
        · rw [if_neg (show ¬ (v53.1 ≤ (-9)) from c76)] at h
          refine go_aload (pc' := 137) dL_law_135 rfl rfl (Nat.le_of_ble_eq_true rfl) ?_
          refine go_aload_n (pc' := 138) dL_law_137 rfl rfl (Nat.le_of_ble_eq_true rfl) ?_
          refine go_aload_n (pc' := 139) dL_law_138 rfl rfl (Nat.le_of_ble_eq_true rfl) ?_
          obtain ⟨v65, k66, h⟩ := bd h
          have k66 := l_L_tell (d + 1) v53.2.1 v53.2.2.1 v53.2.2.2 _ k66
          refine go_call (kc := 114) (Mc := mt114) (v := some (pvR 12 60 v65.1)) (w' := (true, v65.2.1, v53.2.2.1, v65.2.2)) (pc' := 142) (st' := [pvR 12 60 v65.1, pvR 12 60 v49.1]) [pvR 10 0 0, pvR 12 5 129] [pvR 12 60 v49.1] (Or.inr (Or.inl rfl)) dL_law_139 rfl rm_12_156 mtE114 rfl rfl rfl (Nat.le_of_ble_eq_true rfl) (Or.inl (by decide)) k66 rfl ?_
          obtain ⟨v67, k68, h⟩ := bd h
          have k68 := l_L_same (d + 243) v65.2.1 v53.2.2.1 v65.2.2 v49.1 v65.1 _ k68
          refine go_call (kc := 122) (Mc := mt122) (v := some (pvI v67)) (w' := (true, v65.2.1, v53.2.2.1, v65.2.2)) (pc' := 145) (st' := [pvI v67]) [pvR 12 60 v49.1, pvR 12 60 v65.1] [] (Or.inr (Or.inl rfl)) dL_law_142 rfl rm_12_164 mtE122 rfl rfl rfl (Nat.le_of_ble_eq_true rfl) (Or.inl (by decide)) k68 rfl ?_
          refine go_if_eq (t := 158) (pc' := 148) dL_law_145 rfl rfl (fun c75 => ?_) (fun c75 => ?_)
          · rw [if_pos (show v67 = 0 from c75)] at h
            refine go_iconst (pc' := 159) dL_law_158 rfl (r32_c rfl) ?_
            obtain ⟨g69, h⟩ := gd h
            cases h
            exact go_zret dL_law_159 rfl g69 rfl
          · rw [if_neg (show ¬ (v67 = 0) from c75)] at h
            refine go_aload_n (pc' := 149) dL_law_148 rfl rfl (Nat.le_of_ble_eq_true rfl) ?_
            refine go_aload_n (pc' := 150) dL_law_149 rfl rfl (Nat.le_of_ble_eq_true rfl) ?_
            refine go_iload (pc' := 152) dL_law_150 rfl rfl ?_
            obtain ⟨v70, k71, h⟩ := bd h
            have k71 := l_L_asks (d + 0) v65.2.1 v53.2.2.1 v65.2.2 (scrV q (2 * y13)) _ k71
            refine go_call (kc := 123) (Mc := mt123) (v := some (pvI v70.1)) (w' := (true, v65.2.1, v70.2.1, v70.2.2)) (pc' := 155) (st' := [pvI v70.1]) [pvR 10 0 0, pvR 12 5 129, pvI (scrV q (2 * y13))] [] (Or.inr (Or.inl rfl)) dL_law_152 rfl rm_12_168 mtE123 rfl rfl rfl (Nat.le_of_ble_eq_true rfl) (Or.inl (by decide)) k71 rfl ?_
            refine go_if_ne (t := 160) (pc' := 158) dL_law_155 rfl rfl (fun c74 => ?_) (fun c74 => ?_)
            · rw [if_pos (show v70.1 ≠ 0 from c74)] at h
              obtain ⟨g72, h⟩ := gd h
              refine go_iinc (L' := [some (pvS), some (pvR 10 0 0), some (pvR 12 5 129), some (pvI (y13 + 1)), some (pvI (scrV q (2 * y13))), some (pvI (scrV q ((2 * y13) + 1))), some (pvR 12 60 v49.1), some (pvI v53.1)]) (pc' := 163) dL_law_160 rfl rfl g72 rfl ?_
              refine go_goto (t := 71) dL_law_163 rfl ?_
              exact go_sub (ih (y13 + 1) v70.2.2 v65.2.1 v70.2.1 _ h) ⟨Or.inr rfl, Or.inr rfl, Or.inr rfl, Or.inr rfl, Or.inl rfl, Or.inl rfl, Or.inl rfl, Or.inl rfl, trivial⟩
            · rw [if_neg (show ¬ (v70.1 ≠ 0) from c74)] at h
              refine go_iconst (pc' := 159) dL_law_158 rfl (r32_c rfl) ?_
              obtain ⟨g73, h⟩ := gd h
              cases h
              exact go_zret dL_law_159 rfl g73 rfl

set_option maxRecDepth 10000 in
theorem l_L_law_14 (q : Nat × (Nat → Int32)) (d : Nat) (n : Nat) (e : Nat) (q : Nat × (Nat → Int32)) : ∀ (F : Nat) (y1 : Int) (σ2 : Hp) (n4 : Nat) (e3 : Nat) (r : Int × Nat × Nat × Hp), f_L_law_14 q F y1 σ2 n4 e3 = some r → Go (some q) (Ev (d + 244)) mt163 14 [some (pvS), some (pvR 10 0 0), some (pvR 12 5 129), some (pvI y1), none, none, none, none] [] (true, n4, e3, σ2) (0, some (pvI r.1), true, r.2.1, r.2.2.1, r.2.2.2) := by
  intro F
  induction F with
  | zero =>
    intro _ _ _ _ _ h
    rw [f_L_law_14] at h
    cases h
  | succ F ih =>
    intro y1 σ2 n4 e3 r h
    rw [f_L_law_14] at h
    refine go_iload_n (pc' := 15) dL_law_14 rfl rfl ?_
    refine go_iconst (pc' := 16) dL_law_15 rfl (r32_c rfl) ?_
    refine go_icmp_ge (t := 42) (pc' := 19) dL_law_16 rfl rfl (fun c89 => ?_) (fun c89 => ?_)
    · rw [if_pos (show 3 ≤ y1 from c89)] at h
      refine go_aload_n (pc' := 43) dL_law_42 rfl rfl (Nat.le_of_ble_eq_true rfl) ?_
      refine go_iconst (pc' := 44) dL_law_43 rfl (r32_c rfl) ?_
      refine go_iconst (pc' := 45) dL_law_44 rfl (r32_c rfl) ?_
      obtain ⟨g5, h⟩ := gd h
      refine go_iast (pc' := 46) dL_law_45 rfl g5 ?_
      refine go_aload_n (pc' := 47) dL_law_46 rfl rfl (Nat.le_of_ble_eq_true rfl) ?_
      refine go_iconst (pc' := 48) dL_law_47 rfl (r32_c rfl) ?_
      refine go_iconst (pc' := 49) dL_law_48 rfl (r32_c rfl) ?_
      refine go_iconst (pc' := 50) dL_law_49 rfl (r32_c rfl) ?_
      obtain ⟨v6, k7, h⟩ := bd h
      obtain ⟨g8, h⟩ := gd h
      have k7 := l_C_measure (d + 241) n4 e3 (hset σ2 129 3 2) 0 0 0 _ k7
      rw [g8] at k7
      refine go_call (kc := 36) (Mc := mt36) (v := some (pvI v6.2.1)) (w' := (true, n4, e3, v6.2.2)) (pc' := 53) (st' := [pvI v6.2.1]) [pvR 10 0 0, pvI 0, pvI 0, pvI 0] [] (Or.inl rfl) dL_law_50 rfl rm_12_35 mtE36 rfl rfl rfl (Nat.le_of_ble_eq_true rfl) (Or.inr ⟨_, _, 0, rfl, Or.inl rfl⟩) k7 rfl ?_
      refine go_if_ne (t := 67) (pc' := 56) dL_law_53 rfl rfl (fun c81 => ?_) (fun c81 => ?_)
      · rw [if_pos (show v6.2.1 ≠ 0 from c81)] at h
        refine go_iconst (pc' := 68) dL_law_67 rfl (r32_c rfl) ?_
        obtain ⟨g9, h⟩ := gd h
        cases h
        exact go_zret dL_law_68 rfl g9 rfl
      · rw [if_neg (show ¬ (v6.2.1 ≠ 0) from c81)] at h
        refine go_aload_n (pc' := 57) dL_law_56 rfl rfl (Nat.le_of_ble_eq_true rfl) ?_
        refine go_iconst (pc' := 58) dL_law_57 rfl (r32_c rfl) ?_
        refine go_iconst (pc' := 59) dL_law_58 rfl (r32_c rfl) ?_
        refine go_iconst (pc' := 60) dL_law_59 rfl (r32_c rfl) ?_
        obtain ⟨v10, k11, h⟩ := bd h
        obtain ⟨g12, h⟩ := gd h
        have k11 := l_C_measure (d + 241) n4 e3 v6.2.2 1 0 0 _ k11
        rw [g12] at k11
        refine go_call (kc := 36) (Mc := mt36) (v := some (pvI v10.2.1)) (w' := (true, n4, e3, v10.2.2)) (pc' := 63) (st' := [pvI v10.2.1]) [pvR 10 0 0, pvI 1, pvI 0, pvI 0] [] (Or.inl rfl) dL_law_60 rfl rm_12_35 mtE36 rfl rfl rfl (Nat.le_of_ble_eq_true rfl) (Or.inr ⟨_, _, 0, rfl, Or.inl rfl⟩) k11 rfl ?_
        refine go_iconst (pc' := 64) dL_law_63 rfl (r32_c rfl) ?_
        refine go_icmp_eq (t := 69) (pc' := 67) dL_law_64 rfl rfl (fun c80 => ?_) (fun c80 => ?_)
        · rw [if_pos (show v10.2.1 = 1 from c80)] at h
          refine go_iconst (pc' := 70) dL_law_69 rfl (r32_c rfl) ?_
          refine go_istore_n (L' := [some (pvS), some (pvR 10 0 0), some (pvR 12 5 129), some (pvI 0), none, none, none, none]) (pc' := 71) dL_law_70 rfl (Nat.le_of_ble_eq_true rfl) rfl ?_
          exact l_L_law_71 q d n4 e3 q zFuel 0 v10.2.2 n4 e3 _ h
        · rw [if_neg (show ¬ (v10.2.1 = 1) from c80)] at h
          refine go_iconst (pc' := 68) dL_law_67 rfl (r32_c rfl) ?_
          obtain ⟨g79, h⟩ := gd h
          cases h
          exact go_zret dL_law_68 rfl g79 rfl
    · rw [if_neg (show ¬ (3 ≤ y1) from c89)] at h
      refine go_aload_n (pc' := 20) dL_law_19 rfl rfl (Nat.le_of_ble_eq_true rfl) ?_
      refine go_iload_n (pc' := 21) dL_law_20 rfl rfl ?_
      refine go_iconst (pc' := 22) dL_law_21 rfl (r32_c rfl) ?_
      obtain ⟨g82, h⟩ := gd h
      refine go_iast (pc' := 23) dL_law_22 rfl g82 ?_
      refine go_aload_n (pc' := 24) dL_law_23 rfl rfl (Nat.le_of_ble_eq_true rfl) ?_
      refine go_iload_n (pc' := 25) dL_law_24 rfl rfl ?_
      refine go_iconst (pc' := 26) dL_law_25 rfl (r32_c rfl) ?_
      refine go_iconst (pc' := 27) dL_law_26 rfl (r32_c rfl) ?_
      obtain ⟨v83, k84, h⟩ := bd h
      obtain ⟨g85, h⟩ := gd h
      have k84 := l_C_member (d + 237) n4 e3 (hset σ2 129 y1 2) y1 0 1 _ k84
      rw [g85] at k84
      refine go_call (kc := 12) (Mc := mt12) (v := some (pvI v83.2.1)) (w' := (true, n4, e3, v83.2.2)) (pc' := 30) (st' := [pvI v83.2.1]) [pvR 10 0 0, pvI y1, pvI 0, pvI 1] [] (Or.inl rfl) dL_law_27 rfl rm_12_9 mtE12 rfl rfl rfl (Nat.le_of_ble_eq_true rfl) (Or.inr ⟨_, _, 0, rfl, Or.inl rfl⟩) k84 rfl ?_
      refine go_iconst (pc' := 31) dL_law_30 rfl (r32_c rfl) ?_
      refine go_icmp_eq (t := 36) (pc' := 34) dL_law_31 rfl rfl (fun c88 => ?_) (fun c88 => ?_)
      · rw [if_pos (show v83.2.1 = 1 from c88)] at h
        obtain ⟨g86, h⟩ := gd h
        refine go_iinc (L' := [some (pvS), some (pvR 10 0 0), some (pvR 12 5 129), some (pvI (y1 + 1)), none, none, none, none]) (pc' := 39) dL_law_36 rfl rfl g86 rfl ?_
        refine go_goto (t := 14) dL_law_39 rfl ?_
        exact ih (y1 + 1) v83.2.2 n4 e3 _ h
      · rw [if_neg (show ¬ (v83.2.1 = 1) from c88)] at h
        refine go_iconst (pc' := 35) dL_law_34 rfl (r32_c rfl) ?_
        obtain ⟨g87, h⟩ := gd h
        cases h
        exact go_zret dL_law_35 rfl g87 rfl

set_option maxRecDepth 10000 in
theorem l_L_law (q : Nat × (Nat → Int32)) (d n e : Nat) (σ : Hp) (r : Int × Nat × Nat × Hp) (h : f_L_law q σ n e = some r) : Go (some q) (Ev (d + 244)) mt163 12 [some (pvS), some (pvR 10 0 0), some (pvR 12 5 129), none, none, none, none, none] [] (true, n, e, σ) (0, some (pvI r.1), true, r.2.1, r.2.2.1, r.2.2.2) := by
  unfold f_L_law at h
  refine go_iconst (pc' := 13) dL_law_12 rfl (r32_c rfl) ?_
  refine go_istore_n (L' := [some (pvS), some (pvR 10 0 0), some (pvR 12 5 129), some (pvI 0), none, none, none, none]) (pc' := 14) dL_law_13 rfl (Nat.le_of_ble_eq_true rfl) rfl ?_
  exact l_L_law_14 q d n e q zFuel 0 σ n e _ h

