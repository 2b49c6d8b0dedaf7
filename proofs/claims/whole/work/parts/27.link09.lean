/-! ===== links: each function is what its bytecode does ===== -/
set_option maxRecDepth 10000 in
theorem l_M_look (V : Hp → Int → Int → Int → Int → Int → Option (Int × Hp)) (u : Nat) (hV : ∀ (d n e : Nat) (σ : Hp) (x1 : Int) (x2 : Int) (x3 : Int) (x4 : Int) (x5 : Int) (r : Int × Hp), V σ x1 x2 x3 x4 x5 = some r → Ev (d + u) 209 [pvR 11 0 129, pvI x1, pvI x2, pvI x3, pvI x4, pvI x5] (true, n, e, σ) (0, some (pvL r.1), true, n, e, r.2)) (d : Nat) (n e : Nat) (σ : Hp) (x1 : Int) (x2 : Int) (x3 : Int) (x4 : Int) (x5 : Int) (x6 : Int) (x7 : Int) (x8 : Int) (r : Int × Hp) (h : f_M_look V σ x1 x2 x3 x4 x5 x6 x7 x8 = some r) : Ev (d + u + 5) 211 [pvR 11 0 129, pvI x1, pvI x2, pvI x3, pvI x4, pvI x5, pvI x6, pvI x7, pvI x8] (true, n, e, σ) (0, some (pvL r.1), true, n, e, r.2) := by
  unfold f_M_look at h
  refine Ev.of mtE211 rfl rfl rfl rfl ?_
  show Go none (Ev (d + u + 4)) mt211 0 [some (pvR 11 0 129), some (pvI x1), some (pvI x2), some (pvI x3), some (pvI x4), some (pvI x5), some (pvI x6), some (pvI x7), some (pvI x8), none, none, none] [] (true, n, e, σ) (0, some (pvL r.1), true, n, e, r.2)
  refine go_iload_n (pc' := 1) dX11_look_0 rfl rfl ?_
  obtain ⟨j1, k2, h⟩ := bd h
  have k2J : Go none (Ev (d + u + 4)) mt211 10 [some (pvR 11 0 129), some (pvI x1), some (pvI x2), some (pvI x3), some (pvI x4), some (pvI x5), some (pvI x6), some (pvI x7), some (pvI x8), none, none, none] [pvI j1] (true, n, e, σ) (0, some (pvL r.1), true, n, e, r.2) := by
    refine go_istore (L' := [some (pvR 11 0 129), some (pvI x1), some (pvI x2), some (pvI x3), some (pvI x4), some (pvI x5), some (pvI x6), some (pvI x7), some (pvI x8), some (pvI j1), none, none]) (pc' := 12) dX11_look_10 rfl (Nat.le_of_ble_eq_true rfl) rfl ?_
    refine go_iload_n (pc' := 13) dX11_look_12 rfl rfl ?_
    obtain ⟨j3, k4, h⟩ := bd h
    have k4J : Go none (Ev (d + u + 4)) mt211 39 [some (pvR 11 0 129), some (pvI x1), some (pvI x2), some (pvI x3), some (pvI x4), some (pvI x5), some (pvI x6), some (pvI x7), some (pvI x8), some (pvI j3), none, none] [] (true, n, e, σ) (0, some (pvL r.1), true, n, e, r.2) := by
      refine go_iload (pc' := 41) dX11_look_39 rfl rfl ?_
      obtain ⟨j12, k13, h⟩ := bd h
      have k13J : Go none (Ev (d + u + 4)) mt211 82 [some (pvR 11 0 129), some (pvI x1), some (pvI x2), some (pvI x3), some (pvI x4), some (pvI x5), some (pvI x6), some (pvI x7), some (pvI x8), some (pvI j3), none, none] [pvL j12.1] (true, n, e, j12.2) (0, some (pvL r.1), true, n, e, r.2) := by
        refine go_lstore (L' := [some (pvR 11 0 129), some (pvI x1), some (pvI x2), some (pvI x3), some (pvI x4), some (pvI x5), some (pvI x6), some (pvI x7), some (pvI x8), some (pvI j3), some (pvL j12.1), none]) (pc' := 84) dX11_look_82 rfl (Nat.le_of_ble_eq_true rfl) rfl ?_
        refine go_lload (pc' := 86) dX11_look_84 rfl rfl ?_
        refine go_ldc2 (pc' := 89) dX11_look_86 rfl (r64_c rfl) rc_11_262 ?_
        refine go_lcmp (pc' := 90) dX11_look_89 rfl ?_
        obtain ⟨j22, k23, h⟩ := bd h
        have k23J : Go none (Ev (d + u + 4)) mt211 105 [some (pvR 11 0 129), some (pvI x1), some (pvI x2), some (pvI x3), some (pvI x4), some (pvI x5), some (pvI x6), some (pvI x7), some (pvI x8), some (pvI j3), some (pvL j12.1), none] [pvL j22] (true, n, e, j12.2) (0, some (pvL r.1), true, n, e, r.2) := by
          cases h
          exact go_lret dX11_look_105 rfl rfl
        clear h
        have h := k23
        refine go_if_ne (t := 99) (pc' := 93) dX11_look_90 rfl rfl (fun c26 => ?_) (fun c26 => ?_)
        · rw [if_pos (show (lcm j12.1 (-9223372036854775808)) ≠ 0 from c26)] at h
          refine go_aload_n (pc' := 100) dX11_look_99 rfl rfl (Nat.le_of_ble_eq_true rfl) ?_
          refine go_lload (pc' := 102) dX11_look_100 rfl rfl ?_
          obtain ⟨v24, k25, h⟩ := bd h
          have k25 := l_M_bound (d + u + 3) n e j12.2 j12.1 _ k25
          refine go_call (kc := 213) (Mc := mt213) (v := some (pvL v24)) (w' := (true, n, e, j12.2)) (pc' := 105) (st' := [pvL v24]) [pvR 11 0 129, pvL j12.1] [] (Or.inl rfl) dX11_look_102 rfl rm_11_281 mtE213 rfl rfl rfl (Nat.le_of_ble_eq_true rfl) (Or.inr ⟨_, _, 129, rfl, Or.inl rfl⟩) k25 rfl ?_
          cases h
          exact k23J
        · rw [if_neg (show ¬ ((lcm j12.1 (-9223372036854775808)) ≠ 0) from c26)] at h
          refine go_ldc2 (pc' := 96) dX11_look_93 rfl (r64_c rfl) rc_11_262 ?_
          refine go_goto (t := 105) dX11_look_96 rfl ?_
          cases h
          exact k23J
      clear h
      have h := k13
      refine go_if_ge (t := 50) (pc' := 44) dX11_look_41 rfl rfl (fun c27 => ?_) (fun c27 => ?_)
      · rw [if_pos (show 0 ≤ j3 from c27)] at h
        refine go_aload_n (pc' := 51) dX11_look_50 rfl rfl (Nat.le_of_ble_eq_true rfl) ?_
        refine go_iload (pc' := 53) dX11_look_51 rfl rfl ?_
        refine go_iload_n (pc' := 54) dX11_look_53 rfl rfl ?_
        refine go_iconst (pc' := 55) dX11_look_54 rfl (r32_c rfl) ?_
        obtain ⟨j14, k15, h⟩ := bd h
        have k15J : Go none (Ev (d + u + 4)) mt211 64 [some (pvR 11 0 129), some (pvI x1), some (pvI x2), some (pvI x3), some (pvI x4), some (pvI x5), some (pvI x6), some (pvI x7), some (pvI x8), some (pvI j3), none, none] [pvI j14, pvI j3, pvR 11 0 129] (true, n, e, σ) (0, some (pvL r.1), true, n, e, r.2) := by
          refine go_iload_n (pc' := 65) dX11_look_64 rfl rfl ?_
          refine go_iconst (pc' := 66) dX11_look_65 rfl (r32_c rfl) ?_
          obtain ⟨j16, k17, h⟩ := bd h
          have k17J : Go none (Ev (d + u + 4)) mt211 75 [some (pvR 11 0 129), some (pvI x1), some (pvI x2), some (pvI x3), some (pvI x4), some (pvI x5), some (pvI x6), some (pvI x7), some (pvI x8), some (pvI j3), none, none] [pvI j16, pvI j14, pvI j3, pvR 11 0 129] (true, n, e, σ) (0, some (pvL r.1), true, n, e, r.2) := by
            refine go_iload (pc' := 77) dX11_look_75 rfl rfl ?_
            refine go_iload (pc' := 79) dX11_look_77 rfl rfl ?_
            obtain ⟨v18, k19, h⟩ := bd h
            have k19 := (by have z := hV (d + 4) n e σ j3 j14 j16 x7 x8 _ k19; rwa [show d + 4 + u = d + u + 4 by omega] at z)
            refine go_call (kc := 209) (Mc := mt209) (v := some (pvL v18.1)) (w' := (true, n, e, v18.2)) (pc' := 82) (st' := [pvL v18.1]) [pvR 11 0 129, pvI j3, pvI j14, pvI j16, pvI x7, pvI x8] [] (Or.inl rfl) dX11_look_79 rfl rm_11_275 mtE209 rfl rfl rfl (Nat.le_of_ble_eq_true rfl) (Or.inr ⟨_, _, 129, rfl, Or.inl rfl⟩) k19 rfl ?_
            cases h
            exact k13J
          clear h
          have h := k17
          refine go_icmp_ne (t := 73) (pc' := 69) dX11_look_66 rfl rfl (fun c20 => ?_) (fun c20 => ?_)
          · rw [if_pos (show x1 ≠ 2 from c20)] at h
            refine go_iload (pc' := 75) dX11_look_73 rfl rfl ?_
            cases h
            exact k17J
          · rw [if_neg (show ¬ (x1 ≠ 2) from c20)] at h
            refine go_iload_n (pc' := 70) dX11_look_69 rfl rfl ?_
            refine go_goto (t := 75) dX11_look_70 rfl ?_
            cases h
            exact k17J
        clear h
        have h := k15
        refine go_icmp_ne (t := 62) (pc' := 58) dX11_look_55 rfl rfl (fun c21 => ?_) (fun c21 => ?_)
        · rw [if_pos (show x1 ≠ 1 from c21)] at h
          refine go_iload (pc' := 64) dX11_look_62 rfl rfl ?_
          cases h
          exact k15J
        · rw [if_neg (show ¬ (x1 ≠ 1) from c21)] at h
          refine go_iload_n (pc' := 59) dX11_look_58 rfl rfl ?_
          refine go_goto (t := 64) dX11_look_59 rfl ?_
          cases h
          exact k15J
      · rw [if_neg (show ¬ (0 ≤ j3) from c27)] at h
        refine go_ldc2 (pc' := 47) dX11_look_44 rfl (r64_c rfl) rc_11_262 ?_
        refine go_goto (t := 82) dX11_look_47 rfl ?_
        cases h
        exact k13J
    clear h
    have h := k4
    refine go_if_le (t := 39) (pc' := 16) dX11_look_13 rfl rfl (fun c28 => ?_) (fun c28 => ?_)
    · rw [if_pos (show x3 ≤ 0 from c28)] at h
      cases h
      exact k4J
    · rw [if_neg (show ¬ (x3 ≤ 0) from c28)] at h
      refine go_aload_n (pc' := 17) dX11_look_16 rfl rfl (Nat.le_of_ble_eq_true rfl) ?_
      refine go_iconst (pc' := 18) dX11_look_17 rfl (r32_c rfl) ?_
      refine go_iload (pc' := 20) dX11_look_18 rfl rfl ?_
      obtain ⟨v5, k6, h⟩ := bd h
      have k6 := l_M_isPlain (d + u + 3) n e σ 0 j1 _ k6
      refine go_call (kc := 173) (Mc := mt173) (v := some (pvI v5)) (w' := (true, n, e, σ)) (pc' := 23) (st' := [pvI v5]) [pvR 11 0 129, pvI 0, pvI j1] [] (Or.inl rfl) dX11_look_20 rfl rm_11_180 mtE173 rfl rfl rfl (Nat.le_of_ble_eq_true rfl) (Or.inr ⟨_, _, 129, rfl, Or.inl rfl⟩) k6 rfl ?_
      obtain ⟨j7, k8, h⟩ := bd h
      have k8J : Go none (Ev (d + u + 4)) mt211 37 [some (pvR 11 0 129), some (pvI x1), some (pvI x2), some (pvI x3), some (pvI x4), some (pvI x5), some (pvI x6), some (pvI x7), some (pvI x8), some (pvI j1), none, none] [pvI j7] (true, n, e, σ) (0, some (pvL r.1), true, n, e, r.2) := by
        refine go_istore (L' := [some (pvR 11 0 129), some (pvI x1), some (pvI x2), some (pvI x3), some (pvI x4), some (pvI x5), some (pvI x6), some (pvI x7), some (pvI x8), some (pvI j7), none, none]) (pc' := 39) dX11_look_37 rfl (Nat.le_of_ble_eq_true rfl) rfl ?_
        cases h
        exact k4J
      clear h
      have h := k8
      refine go_if_eq (t := 36) (pc' := 26) dX11_look_23 rfl rfl (fun c11 => ?_) (fun c11 => ?_)
      · rw [if_pos (show v5 = 0 from c11)] at h
        refine go_iconst (pc' := 37) dX11_look_36 rfl (r32_c rfl) ?_
        cases h
        exact k8J
      · rw [if_neg (show ¬ (v5 = 0) from c11)] at h
        refine go_aload_n (pc' := 27) dX11_look_26 rfl rfl (Nat.le_of_ble_eq_true rfl) ?_
        refine go_iload (pc' := 29) dX11_look_27 rfl rfl ?_
        refine go_iload_n (pc' := 30) dX11_look_29 rfl rfl ?_
        obtain ⟨v9, k10, h⟩ := bd h
        have k10 := l_M_back (d + u + 0) n e σ j1 x3 _ k10
        refine go_call (kc := 212) (Mc := mt212) (v := some (pvI v9)) (w' := (true, n, e, σ)) (pc' := 33) (st' := [pvI v9]) [pvR 11 0 129, pvI j1, pvI x3] [] (Or.inl rfl) dX11_look_30 rfl rm_11_293 mtE212 rfl rfl rfl (Nat.le_of_ble_eq_true rfl) (Or.inr ⟨_, _, 129, rfl, Or.inl rfl⟩) k10 rfl ?_
        refine go_goto (t := 37) dX11_look_33 rfl ?_
        cases h
        exact k8J
  clear h
  have h := k2
  refine go_if_ne (t := 8) (pc' := 4) dX11_look_1 rfl rfl (fun c29 => ?_) (fun c29 => ?_)
  · rw [if_pos (show x1 ≠ 0 from c29)] at h
    refine go_iload (pc' := 10) dX11_look_8 rfl rfl ?_
    cases h
    exact k2J
  · rw [if_neg (show ¬ (x1 ≠ 0) from c29)] at h
    refine go_iload_n (pc' := 5) dX11_look_4 rfl rfl ?_
    refine go_goto (t := 10) dX11_look_5 rfl ?_
    cases h
    exact k2J

set_option maxRecDepth 10000 in
theorem l_M_times (d : Nat) (n e : Nat) (σ : Hp) (x1 : Int) (x2 : Int) (r : Int) (h : f_M_times σ x1 x2 = some r) : Ev (d + 2) 216 [pvR 11 0 129, pvL x1, pvL x2] (true, n, e, σ) (0, some (pvL r), true, n, e, σ) := by
  unfold f_M_times at h
  refine Ev.of mtE216 rfl rfl rfl rfl ?_
  show Go none (Ev (d + 1)) mt216 0 [some (pvR 11 0 129), some (pvL x1), none, some (pvL x2), none, none, none, none, none, none] [] (true, n, e, σ) (0, some (pvL r), true, n, e, σ)
  refine go_lload_n (pc' := 1) dX11_times_0 rfl rfl ?_
  refine go_lconst (z := 0) (pc' := 2) dX11_times_1 rfl rfl ?_
  refine go_lcmp (pc' := 3) dX11_times_2 rfl ?_
  obtain ⟨j1, k2, h⟩ := bd h
  have k2J : Go none (Ev (d + 1)) mt216 12 [some (pvR 11 0 129), some (pvL x1), none, some (pvL x2), none, none, none, none, none, none] [pvL j1] (true, n, e, σ) (0, some (pvL r), true, n, e, σ) := by
    refine go_lstore (L' := [some (pvR 11 0 129), some (pvL x1), none, some (pvL x2), none, some (pvL j1), none, none, none, none]) (pc' := 14) dX11_times_12 rfl (Nat.le_of_ble_eq_true rfl) rfl ?_
    refine go_lload_n (pc' := 15) dX11_times_14 rfl rfl ?_
    refine go_lconst (z := 0) (pc' := 16) dX11_times_15 rfl rfl ?_
    refine go_lcmp (pc' := 17) dX11_times_16 rfl ?_
    obtain ⟨j4, k5, h⟩ := bd h
    have k5J : Go none (Ev (d + 1)) mt216 26 [some (pvR 11 0 129), some (pvL x1), none, some (pvL x2), none, some (pvL j1), none, none, none, none] [pvL j4] (true, n, e, σ) (0, some (pvL r), true, n, e, σ) := by
      refine go_lstore (L' := [some (pvR 11 0 129), some (pvL x1), none, some (pvL x2), none, some (pvL j1), none, some (pvL j4), none, none]) (pc' := 28) dX11_times_26 rfl (Nat.le_of_ble_eq_true rfl) rfl ?_
      refine go_lload (pc' := 30) dX11_times_28 rfl rfl ?_
      refine go_lconst (z := 0) (pc' := 31) dX11_times_30 rfl rfl ?_
      refine go_lcmp (pc' := 32) dX11_times_31 rfl ?_
      obtain ⟨j7, k8, h⟩ := bd h
      have k8J : Go none (Ev (d + 1)) mt216 52 [some (pvR 11 0 129), some (pvL x1), none, some (pvL x2), none, some (pvL j1), none, some (pvL j4), none, none] [pvI j7] (true, n, e, σ) (0, some (pvL r), true, n, e, σ) := by
        refine go_istore (L' := [some (pvR 11 0 129), some (pvL x1), none, some (pvL x2), none, some (pvL j1), none, some (pvL j4), none, some (pvI j7)]) (pc' := 54) dX11_times_52 rfl (Nat.le_of_ble_eq_true rfl) rfl ?_
        refine go_iload (pc' := 56) dX11_times_54 rfl rfl ?_
        obtain ⟨j11, k12, h⟩ := bd h
        have k12J : Go none (Ev (d + 1)) mt216 103 [some (pvR 11 0 129), some (pvL x1), none, some (pvL x2), none, some (pvL j1), none, some (pvL j4), none, some (pvI j7)] [pvL j11] (true, n, e, σ) (0, some (pvL r), true, n, e, σ) := by
          cases h
          exact go_lret dX11_times_103 rfl rfl
        clear h
        have h := k12
        refine go_if_eq (t := 96) (pc' := 59) dX11_times_56 rfl rfl (fun c23 => ?_) (fun c23 => ?_)
        · rw [if_pos (show j7 = 0 from c23)] at h
          refine go_aload_n (pc' := 97) dX11_times_96 rfl rfl (Nat.le_of_ble_eq_true rfl) ?_
          refine go_lload_n (pc' := 98) dX11_times_97 rfl rfl ?_
          refine go_lload_n (pc' := 99) dX11_times_98 rfl rfl ?_
          obtain ⟨g13, h⟩ := gd h
          refine go_lmul (pc' := 100) dX11_times_99 rfl g13 ?_
          obtain ⟨v14, k15, h⟩ := bd h
          have k15 := l_M_bound (d + 0) n e σ (x1 * x2) _ k15
          refine go_call (kc := 213) (Mc := mt213) (v := some (pvL v14)) (w' := (true, n, e, σ)) (pc' := 103) (st' := [pvL v14]) [pvR 11 0 129, pvL (x1 * x2)] [] (Or.inl rfl) dX11_times_100 rfl rm_11_281 mtE213 rfl rfl rfl (Nat.le_of_ble_eq_true rfl) (Or.inr ⟨_, _, 129, rfl, Or.inl rfl⟩) k15 rfl ?_
          cases h
          exact k12J
        · rw [if_neg (show ¬ (j7 = 0) from c23)] at h
          refine go_lload_n (pc' := 60) dX11_times_59 rfl rfl ?_
          refine go_lconst (z := 0) (pc' := 61) dX11_times_60 rfl rfl ?_
          refine go_lcmp (pc' := 62) dX11_times_61 rfl ?_
          obtain ⟨j16, k17, h⟩ := bd h
          have k17J : Go none (Ev (d + 1)) mt216 70 [some (pvR 11 0 129), some (pvL x1), none, some (pvL x2), none, some (pvL j1), none, some (pvL j4), none, some (pvI j7)] [pvI j16] (true, n, e, σ) (0, some (pvL r), true, n, e, σ) := by
            refine go_lload_n (pc' := 71) dX11_times_70 rfl rfl ?_
            refine go_lconst (z := 0) (pc' := 72) dX11_times_71 rfl rfl ?_
            refine go_lcmp (pc' := 73) dX11_times_72 rfl ?_
            obtain ⟨j18, k19, h⟩ := bd h
            have k19J : Go none (Ev (d + 1)) mt216 81 [some (pvR 11 0 129), some (pvL x1), none, some (pvL x2), none, some (pvL j1), none, some (pvL j4), none, some (pvI j7)] [pvI j18, pvI j16] (true, n, e, σ) (0, some (pvL r), true, n, e, σ) := by
              refine go_icmp_ne (t := 90) (pc' := 84) dX11_times_81 rfl rfl (fun c20 => ?_) (fun c20 => ?_)
              · rw [if_pos (show j16 ≠ j18 from c20)] at h
                refine go_ldc2 (pc' := 93) dX11_times_90 rfl (r64_c rfl) rc_11_266 ?_
                refine go_goto (t := 103) dX11_times_93 rfl ?_
                cases h
                exact k12J
              · rw [if_neg (show ¬ (j16 ≠ j18) from c20)] at h
                refine go_ldc2 (pc' := 87) dX11_times_84 rfl (r64_c rfl) rc_11_264 ?_
                refine go_goto (t := 103) dX11_times_87 rfl ?_
                cases h
                exact k12J
            clear h
            have h := k19
            refine go_if_ge (t := 80) (pc' := 76) dX11_times_73 rfl rfl (fun c21 => ?_) (fun c21 => ?_)
            · rw [if_pos (show 0 ≤ (lcm x2 0) from c21)] at h
              refine go_iconst (pc' := 81) dX11_times_80 rfl (r32_c rfl) ?_
              cases h
              exact k19J
            · rw [if_neg (show ¬ (0 ≤ (lcm x2 0)) from c21)] at h
              refine go_iconst (pc' := 77) dX11_times_76 rfl (r32_c rfl) ?_
              refine go_goto (t := 81) dX11_times_77 rfl ?_
              cases h
              exact k19J
          clear h
          have h := k17
          refine go_if_ge (t := 69) (pc' := 65) dX11_times_62 rfl rfl (fun c22 => ?_) (fun c22 => ?_)
          · rw [if_pos (show 0 ≤ (lcm x1 0) from c22)] at h
            refine go_iconst (pc' := 70) dX11_times_69 rfl (r32_c rfl) ?_
            cases h
            exact k17J
          · rw [if_neg (show ¬ (0 ≤ (lcm x1 0)) from c22)] at h
            refine go_iconst (pc' := 66) dX11_times_65 rfl (r32_c rfl) ?_
            refine go_goto (t := 70) dX11_times_66 rfl ?_
            cases h
            exact k17J
      clear h
      have h := k8
      refine go_if_le (t := 51) (pc' := 35) dX11_times_32 rfl rfl (fun c24 => ?_) (fun c24 => ?_)
      · rw [if_pos (show (lcm j1 0) ≤ 0 from c24)] at h
        refine go_iconst (pc' := 52) dX11_times_51 rfl (r32_c rfl) ?_
        cases h
        exact k8J
      · rw [if_neg (show ¬ ((lcm j1 0) ≤ 0) from c24)] at h
        refine go_lload (pc' := 37) dX11_times_35 rfl rfl ?_
        refine go_ldc2 (pc' := 40) dX11_times_37 rfl (r64_c rfl) rc_11_264 ?_
        refine go_lload (pc' := 42) dX11_times_40 rfl rfl ?_
        obtain ⟨g9, h⟩ := gd h
        refine go_ldiv (pc' := 43) dX11_times_42 rfl g9 ?_
        refine go_lcmp (pc' := 44) dX11_times_43 rfl ?_
        refine go_if_le (t := 51) (pc' := 47) dX11_times_44 rfl rfl (fun c10 => ?_) (fun c10 => ?_)
        · rw [if_pos (show (lcm j4 (Int.tdiv 1000000000000 j1)) ≤ 0 from c10)] at h
          refine go_iconst (pc' := 52) dX11_times_51 rfl (r32_c rfl) ?_
          cases h
          exact k8J
        · rw [if_neg (show ¬ ((lcm j4 (Int.tdiv 1000000000000 j1)) ≤ 0) from c10)] at h
          refine go_iconst (pc' := 48) dX11_times_47 rfl (r32_c rfl) ?_
          refine go_goto (t := 52) dX11_times_48 rfl ?_
          cases h
          exact k8J
    clear h
    have h := k5
    refine go_if_ge (t := 25) (pc' := 20) dX11_times_17 rfl rfl (fun c25 => ?_) (fun c25 => ?_)
    · rw [if_pos (show 0 ≤ (lcm x2 0) from c25)] at h
      refine go_lload_n (pc' := 26) dX11_times_25 rfl rfl ?_
      cases h
      exact k5J
    · rw [if_neg (show ¬ (0 ≤ (lcm x2 0)) from c25)] at h
      refine go_lload_n (pc' := 21) dX11_times_20 rfl rfl ?_
      obtain ⟨g6, h⟩ := gd h
      refine go_lneg (pc' := 22) dX11_times_21 rfl g6 ?_
      refine go_goto (t := 26) dX11_times_22 rfl ?_
      cases h
      exact k5J
  clear h
  have h := k2
  refine go_if_ge (t := 11) (pc' := 6) dX11_times_3 rfl rfl (fun c26 => ?_) (fun c26 => ?_)
  · rw [if_pos (show 0 ≤ (lcm x1 0) from c26)] at h
    refine go_lload_n (pc' := 12) dX11_times_11 rfl rfl ?_
    cases h
    exact k2J
  · rw [if_neg (show ¬ (0 ≤ (lcm x1 0)) from c26)] at h
    refine go_lload_n (pc' := 7) dX11_times_6 rfl rfl ?_
    obtain ⟨g3, h⟩ := gd h
    refine go_lneg (pc' := 8) dX11_times_7 rfl g3 ?_
    refine go_goto (t := 12) dX11_times_8 rfl ?_
    cases h
    exact k2J

set_option maxRecDepth 10000 in
theorem l_M_joined (d : Nat) (n e : Nat) (σ : Hp) (x1 : Int) (x2 : Int) (x3 : Int) (r : Int) (h : f_M_joined σ x1 x2 x3 = some r) : Ev (d + 3) 215 [pvR 11 0 129, pvI x1, pvL x2, pvL x3] (true, n, e, σ) (0, some (pvL r), true, n, e, σ) := by
  unfold f_M_joined at h
  refine Ev.of mtE215 rfl rfl rfl rfl ?_
  show Go none (Ev (d + 2)) mt215 0 [some (pvR 11 0 129), some (pvI x1), some (pvL x2), none, some (pvL x3), none, none, none] [] (true, n, e, σ) (0, some (pvL r), true, n, e, σ)
  refine go_iload_n (pc' := 1) dX11_joined_0 rfl rfl ?_
  refine go_iconst (pc' := 2) dX11_joined_1 rfl (r32_c rfl) ?_
  refine go_icmp_eq (t := 10) (pc' := 5) dX11_joined_2 rfl rfl (fun c66 => ?_) (fun c66 => ?_)
  · rw [if_pos (show x1 = 3 from c66)] at h
    refine go_lload (pc' := 12) dX11_joined_10 rfl rfl ?_
    refine go_ldc2 (pc' := 15) dX11_joined_12 rfl (r64_c rfl) rc_11_262 ?_
    refine go_lcmp (pc' := 16) dX11_joined_15 rfl ?_
    obtain ⟨j1, k2, h⟩ := bd h
    have k2J : Go none (Ev (d + 2)) mt215 36 [some (pvR 11 0 129), some (pvI x1), some (pvL x2), none, some (pvL x3), none, none, none] [pvL j1] (true, n, e, σ) (0, some (pvL r), true, n, e, σ) := by
      refine go_lstore (L' := [some (pvR 11 0 129), some (pvI x1), some (pvL x2), none, some (pvL x3), none, some (pvL j1), none]) (pc' := 38) dX11_joined_36 rfl (Nat.le_of_ble_eq_true rfl) rfl ?_
      refine go_lload_n (pc' := 39) dX11_joined_38 rfl rfl ?_
      refine go_ldc2 (pc' := 42) dX11_joined_39 rfl (r64_c rfl) rc_11_262 ?_
      refine go_lcmp (pc' := 43) dX11_joined_42 rfl ?_
      obtain ⟨j5, k6, h⟩ := bd h
      have k6J : Go none (Ev (d + 2)) mt215 81 [some (pvR 11 0 129), some (pvI x1), some (pvL x2), none, some (pvL x3), none, some (pvL j1), none] [pvL j5] (true, n, e, σ) (0, some (pvL r), true, n, e, σ) := by
        cases h
        exact go_lret dX11_joined_81 rfl rfl
      clear h
      have h := k6
      refine go_if_ne (t := 61) (pc' := 46) dX11_joined_43 rfl rfl (fun c20 => ?_) (fun c20 => ?_)
      · rw [if_pos (show (lcm x2 (-9223372036854775808)) ≠ 0 from c20)] at h
        refine go_aload_n (pc' := 62) dX11_joined_61 rfl rfl (Nat.le_of_ble_eq_true rfl) ?_
        refine go_lload_n (pc' := 63) dX11_joined_62 rfl rfl ?_
        refine go_ldc2 (pc' := 66) dX11_joined_63 rfl (r64_c rfl) rc_11_262 ?_
        refine go_lcmp (pc' := 67) dX11_joined_66 rfl ?_
        obtain ⟨j7, k8, h⟩ := bd h
        have k8J : Go none (Ev (d + 2)) mt215 75 [some (pvR 11 0 129), some (pvI x1), some (pvL x2), none, some (pvL x3), none, some (pvL j1), none] [pvL j7, pvR 11 0 129] (true, n, e, σ) (0, some (pvL r), true, n, e, σ) := by
          refine go_lload (pc' := 77) dX11_joined_75 rfl rfl ?_
          obtain ⟨g9, h⟩ := gd h
          refine go_ladd (pc' := 78) dX11_joined_77 rfl g9 ?_
          obtain ⟨v10, k11, h⟩ := bd h
          have k11 := l_M_bound (d + 1) n e σ (j7 + j1) _ k11
          refine go_call (kc := 213) (Mc := mt213) (v := some (pvL v10)) (w' := (true, n, e, σ)) (pc' := 81) (st' := [pvL v10]) [pvR 11 0 129, pvL (j7 + j1)] [] (Or.inl rfl) dX11_joined_78 rfl rm_11_281 mtE213 rfl rfl rfl (Nat.le_of_ble_eq_true rfl) (Or.inr ⟨_, _, 129, rfl, Or.inl rfl⟩) k11 rfl ?_
          cases h
          exact k6J
        clear h
        have h := k8
        refine go_if_ne (t := 74) (pc' := 70) dX11_joined_67 rfl rfl (fun c12 => ?_) (fun c12 => ?_)
        · rw [if_pos (show (lcm x2 (-9223372036854775808)) ≠ 0 from c12)] at h
          refine go_lload_n (pc' := 75) dX11_joined_74 rfl rfl ?_
          cases h
          exact k8J
        · rw [if_neg (show ¬ ((lcm x2 (-9223372036854775808)) ≠ 0) from c12)] at h
          refine go_lconst (z := 0) (pc' := 71) dX11_joined_70 rfl rfl ?_
          refine go_goto (t := 75) dX11_joined_71 rfl ?_
          cases h
          exact k8J
      · rw [if_neg (show ¬ ((lcm x2 (-9223372036854775808)) ≠ 0) from c20)] at h
        refine go_lload (pc' := 48) dX11_joined_46 rfl rfl ?_
        refine go_ldc2 (pc' := 51) dX11_joined_48 rfl (r64_c rfl) rc_11_262 ?_
        refine go_lcmp (pc' := 52) dX11_joined_51 rfl ?_
        refine go_if_ne (t := 61) (pc' := 55) dX11_joined_52 rfl rfl (fun c19 => ?_) (fun c19 => ?_)
        · rw [if_pos (show (lcm x3 (-9223372036854775808)) ≠ 0 from c19)] at h
          refine go_aload_n (pc' := 62) dX11_joined_61 rfl rfl (Nat.le_of_ble_eq_true rfl) ?_
          refine go_lload_n (pc' := 63) dX11_joined_62 rfl rfl ?_
          refine go_ldc2 (pc' := 66) dX11_joined_63 rfl (r64_c rfl) rc_11_262 ?_
          refine go_lcmp (pc' := 67) dX11_joined_66 rfl ?_
          obtain ⟨j13, k14, h⟩ := bd h
          have k14J : Go none (Ev (d + 2)) mt215 75 [some (pvR 11 0 129), some (pvI x1), some (pvL x2), none, some (pvL x3), none, some (pvL j1), none] [pvL j13, pvR 11 0 129] (true, n, e, σ) (0, some (pvL r), true, n, e, σ) := by
            refine go_lload (pc' := 77) dX11_joined_75 rfl rfl ?_
            obtain ⟨g15, h⟩ := gd h
            refine go_ladd (pc' := 78) dX11_joined_77 rfl g15 ?_
            obtain ⟨v16, k17, h⟩ := bd h
            have k17 := l_M_bound (d + 1) n e σ (j13 + j1) _ k17
            refine go_call (kc := 213) (Mc := mt213) (v := some (pvL v16)) (w' := (true, n, e, σ)) (pc' := 81) (st' := [pvL v16]) [pvR 11 0 129, pvL (j13 + j1)] [] (Or.inl rfl) dX11_joined_78 rfl rm_11_281 mtE213 rfl rfl rfl (Nat.le_of_ble_eq_true rfl) (Or.inr ⟨_, _, 129, rfl, Or.inl rfl⟩) k17 rfl ?_
            cases h
            exact k6J
          clear h
          have h := k14
          refine go_if_ne (t := 74) (pc' := 70) dX11_joined_67 rfl rfl (fun c18 => ?_) (fun c18 => ?_)
          · rw [if_pos (show (lcm x2 (-9223372036854775808)) ≠ 0 from c18)] at h
            refine go_lload_n (pc' := 75) dX11_joined_74 rfl rfl ?_
            cases h
            exact k14J
          · rw [if_neg (show ¬ ((lcm x2 (-9223372036854775808)) ≠ 0) from c18)] at h
            refine go_lconst (z := 0) (pc' := 71) dX11_joined_70 rfl rfl ?_
            refine go_goto (t := 75) dX11_joined_71 rfl ?_
            cases h
            exact k14J
        · rw [if_neg (show ¬ ((lcm x3 (-9223372036854775808)) ≠ 0) from c19)] at h
          refine go_ldc2 (pc' := 58) dX11_joined_55 rfl (r64_c rfl) rc_11_262 ?_
          refine go_goto (t := 81) dX11_joined_58 rfl ?_
          cases h
          exact k6J
    clear h
    have h := k2
    refine go_if_ne (t := 23) (pc' := 19) dX11_joined_16 rfl rfl (fun c21 => ?_) (fun c21 => ?_)
    · rw [if_pos (show (lcm x3 (-9223372036854775808)) ≠ 0 from c21)] at h
      refine go_iload_n (pc' := 24) dX11_joined_23 rfl rfl ?_
      refine go_iconst (pc' := 25) dX11_joined_24 rfl (r32_c rfl) ?_
      refine go_icmp_ne (t := 33) (pc' := 28) dX11_joined_25 rfl rfl (fun c4 => ?_) (fun c4 => ?_)
      · rw [if_pos (show x1 ≠ 3 from c4)] at h
        refine go_lload (pc' := 35) dX11_joined_33 rfl rfl ?_
        obtain ⟨g3, h⟩ := gd h
        refine go_lneg (pc' := 36) dX11_joined_35 rfl g3 ?_
        cases h
        exact k2J
      · rw [if_neg (show ¬ (x1 ≠ 3) from c4)] at h
        refine go_lload (pc' := 30) dX11_joined_28 rfl rfl ?_
        refine go_goto (t := 36) dX11_joined_30 rfl ?_
        cases h
        exact k2J
    · rw [if_neg (show ¬ ((lcm x3 (-9223372036854775808)) ≠ 0) from c21)] at h
      refine go_lconst (z := 0) (pc' := 20) dX11_joined_19 rfl rfl ?_
      refine go_goto (t := 36) dX11_joined_20 rfl ?_
      cases h
      exact k2J
  · rw [if_neg (show ¬ (x1 = 3) from c66)] at h
    refine go_iload_n (pc' := 6) dX11_joined_5 rfl rfl ?_
    refine go_iconst (pc' := 7) dX11_joined_6 rfl (r32_c rfl) ?_
    refine go_icmp_ne (t := 82) (pc' := 10) dX11_joined_7 rfl rfl (fun c65 => ?_) (fun c65 => ?_)
    · rw [if_pos (show x1 ≠ 4 from c65)] at h
      refine go_lload_n (pc' := 83) dX11_joined_82 rfl rfl ?_
      refine go_ldc2 (pc' := 86) dX11_joined_83 rfl (r64_c rfl) rc_11_262 ?_
      refine go_lcmp (pc' := 87) dX11_joined_86 rfl ?_
      refine go_if_eq (t := 112) (pc' := 90) dX11_joined_87 rfl rfl (fun c43 => ?_) (fun c43 => ?_)
      · rw [if_pos (show (lcm x2 (-9223372036854775808)) = 0 from c43)] at h
        refine go_ldc2 (pc' := 115) dX11_joined_112 rfl (r64_c rfl) rc_11_262 ?_
        cases h
        exact go_lret dX11_joined_115 rfl rfl
      · rw [if_neg (show ¬ ((lcm x2 (-9223372036854775808)) = 0) from c43)] at h
        refine go_lload (pc' := 92) dX11_joined_90 rfl rfl ?_
        refine go_ldc2 (pc' := 95) dX11_joined_92 rfl (r64_c rfl) rc_11_262 ?_
        refine go_lcmp (pc' := 96) dX11_joined_95 rfl ?_
        refine go_if_eq (t := 112) (pc' := 99) dX11_joined_96 rfl rfl (fun c42 => ?_) (fun c42 => ?_)
        · rw [if_pos (show (lcm x3 (-9223372036854775808)) = 0 from c42)] at h
          refine go_ldc2 (pc' := 115) dX11_joined_112 rfl (r64_c rfl) rc_11_262 ?_
          cases h
          exact go_lret dX11_joined_115 rfl rfl
        · rw [if_neg (show ¬ ((lcm x3 (-9223372036854775808)) = 0) from c42)] at h
          refine go_iload_n (pc' := 100) dX11_joined_99 rfl rfl ?_
          refine go_bipush (pc' := 102) dX11_joined_100 rfl (r32_c rfl) (by decide) ?_
          refine go_icmp_ne (t := 116) (pc' := 105) dX11_joined_102 rfl rfl (fun c41 => ?_) (fun c41 => ?_)
          · rw [if_pos (show x1 ≠ 6 from c41)] at h
            refine go_iload_n (pc' := 117) dX11_joined_116 rfl rfl ?_
            refine go_iconst (pc' := 118) dX11_joined_117 rfl (r32_c rfl) ?_
            obtain ⟨j22, k23, h⟩ := bd h
            have k23J : Go none (Ev (d + 2)) mt215 143 [some (pvR 11 0 129), some (pvI x1), some (pvL x2), none, some (pvL x3), none, none, none] [pvL j22] (true, n, e, σ) (0, some (pvL r), true, n, e, σ) := by
              cases h
              exact go_lret dX11_joined_143 rfl rfl
            clear h
            have h := k23
            refine go_icmp_ne (t := 131) (pc' := 121) dX11_joined_118 rfl rfl (fun c30 => ?_) (fun c30 => ?_)
            · rw [if_pos (show x1 ≠ 5 from c30)] at h
              refine go_aload_n (pc' := 132) dX11_joined_131 rfl rfl (Nat.le_of_ble_eq_true rfl) ?_
              refine go_ldc2 (pc' := 135) dX11_joined_132 rfl (r64_c rfl) rc_11_279 ?_
              refine go_lload_n (pc' := 136) dX11_joined_135 rfl rfl ?_
              obtain ⟨g24, h⟩ := gd h
              refine go_lmul (pc' := 137) dX11_joined_136 rfl g24 ?_
              refine go_lload (pc' := 139) dX11_joined_137 rfl rfl ?_
              obtain ⟨g25, h⟩ := gd h
              refine go_ldiv (pc' := 140) dX11_joined_139 rfl g25 ?_
              obtain ⟨v26, k27, h⟩ := bd h
              have k27 := l_M_bound (d + 1) n e σ (Int.tdiv (1000 * x2) x3) _ k27
              refine go_call (kc := 213) (Mc := mt213) (v := some (pvL v26)) (w' := (true, n, e, σ)) (pc' := 143) (st' := [pvL v26]) [pvR 11 0 129, pvL (Int.tdiv (1000 * x2) x3)] [] (Or.inl rfl) dX11_joined_140 rfl rm_11_281 mtE213 rfl rfl rfl (Nat.le_of_ble_eq_true rfl) (Or.inr ⟨_, _, 129, rfl, Or.inl rfl⟩) k27 rfl ?_
              cases h
              exact k23J
            · rw [if_neg (show ¬ (x1 ≠ 5) from c30)] at h
              refine go_aload_n (pc' := 122) dX11_joined_121 rfl rfl (Nat.le_of_ble_eq_true rfl) ?_
              refine go_lload_n (pc' := 123) dX11_joined_122 rfl rfl ?_
              refine go_lload (pc' := 125) dX11_joined_123 rfl rfl ?_
              obtain ⟨v28, k29, h⟩ := bd h
              have k29 := l_M_times (d + 0) n e σ x2 x3 _ k29
              refine go_call (kc := 216) (Mc := mt216) (v := some (pvL v28)) (w' := (true, n, e, σ)) (pc' := 128) (st' := [pvL v28]) [pvR 11 0 129, pvL x2, pvL x3] [] (Or.inl rfl) dX11_joined_125 rfl rm_11_289 mtE216 rfl rfl rfl (Nat.le_of_ble_eq_true rfl) (Or.inr ⟨_, _, 129, rfl, Or.inl rfl⟩) k29 rfl ?_
              refine go_goto (t := 143) dX11_joined_128 rfl ?_
              cases h
              exact k23J
          · rw [if_neg (show ¬ (x1 ≠ 6) from c41)] at h
            refine go_lload (pc' := 107) dX11_joined_105 rfl rfl ?_
            refine go_lconst (z := 0) (pc' := 108) dX11_joined_107 rfl rfl ?_
            refine go_lcmp (pc' := 109) dX11_joined_108 rfl ?_
            refine go_if_ne (t := 116) (pc' := 112) dX11_joined_109 rfl rfl (fun c40 => ?_) (fun c40 => ?_)
            · rw [if_pos (show (lcm x3 0) ≠ 0 from c40)] at h
              refine go_iload_n (pc' := 117) dX11_joined_116 rfl rfl ?_
              refine go_iconst (pc' := 118) dX11_joined_117 rfl (r32_c rfl) ?_
              obtain ⟨j31, k32, h⟩ := bd h
              have k32J : Go none (Ev (d + 2)) mt215 143 [some (pvR 11 0 129), some (pvI x1), some (pvL x2), none, some (pvL x3), none, none, none] [pvL j31] (true, n, e, σ) (0, some (pvL r), true, n, e, σ) := by
                cases h
                exact go_lret dX11_joined_143 rfl rfl
              clear h
              have h := k32
              refine go_icmp_ne (t := 131) (pc' := 121) dX11_joined_118 rfl rfl (fun c39 => ?_) (fun c39 => ?_)
              · rw [if_pos (show x1 ≠ 5 from c39)] at h
                refine go_aload_n (pc' := 132) dX11_joined_131 rfl rfl (Nat.le_of_ble_eq_true rfl) ?_
                refine go_ldc2 (pc' := 135) dX11_joined_132 rfl (r64_c rfl) rc_11_279 ?_
                refine go_lload_n (pc' := 136) dX11_joined_135 rfl rfl ?_
                obtain ⟨g33, h⟩ := gd h
                refine go_lmul (pc' := 137) dX11_joined_136 rfl g33 ?_
                refine go_lload (pc' := 139) dX11_joined_137 rfl rfl ?_
                obtain ⟨g34, h⟩ := gd h
                refine go_ldiv (pc' := 140) dX11_joined_139 rfl g34 ?_
                obtain ⟨v35, k36, h⟩ := bd h
                have k36 := l_M_bound (d + 1) n e σ (Int.tdiv (1000 * x2) x3) _ k36
                refine go_call (kc := 213) (Mc := mt213) (v := some (pvL v35)) (w' := (true, n, e, σ)) (pc' := 143) (st' := [pvL v35]) [pvR 11 0 129, pvL (Int.tdiv (1000 * x2) x3)] [] (Or.inl rfl) dX11_joined_140 rfl rm_11_281 mtE213 rfl rfl rfl (Nat.le_of_ble_eq_true rfl) (Or.inr ⟨_, _, 129, rfl, Or.inl rfl⟩) k36 rfl ?_
                cases h
                exact k32J
              · rw [if_neg (show ¬ (x1 ≠ 5) from c39)] at h
                refine go_aload_n (pc' := 122) dX11_joined_121 rfl rfl (Nat.le_of_ble_eq_true rfl) ?_
                refine go_lload_n (pc' := 123) dX11_joined_122 rfl rfl ?_
                refine go_lload (pc' := 125) dX11_joined_123 rfl rfl ?_
                obtain ⟨v37, k38, h⟩ := bd h
                have k38 := l_M_times (d + 0) n e σ x2 x3 _ k38
                refine go_call (kc := 216) (Mc := mt216) (v := some (pvL v37)) (w' := (true, n, e, σ)) (pc' := 128) (st' := [pvL v37]) [pvR 11 0 129, pvL x2, pvL x3] [] (Or.inl rfl) dX11_joined_125 rfl rm_11_289 mtE216 rfl rfl rfl (Nat.le_of_ble_eq_true rfl) (Or.inr ⟨_, _, 129, rfl, Or.inl rfl⟩) k38 rfl ?_
                refine go_goto (t := 143) dX11_joined_128 rfl ?_
                cases h
                exact k32J
            · rw [if_neg (show ¬ ((lcm x3 0) ≠ 0) from c40)] at h
              refine go_ldc2 (pc' := 115) dX11_joined_112 rfl (r64_c rfl) rc_11_262 ?_
              cases h
              exact go_lret dX11_joined_115 rfl rfl
    · rw [if_neg (show ¬ (x1 ≠ 4) from c65)] at h
      refine go_lload (pc' := 12) dX11_joined_10 rfl rfl ?_
      refine go_ldc2 (pc' := 15) dX11_joined_12 rfl (r64_c rfl) rc_11_262 ?_
      refine go_lcmp (pc' := 16) dX11_joined_15 rfl ?_
      obtain ⟨j44, k45, h⟩ := bd h
      have k45J : Go none (Ev (d + 2)) mt215 36 [some (pvR 11 0 129), some (pvI x1), some (pvL x2), none, some (pvL x3), none, none, none] [pvL j44] (true, n, e, σ) (0, some (pvL r), true, n, e, σ) := by
        refine go_lstore (L' := [some (pvR 11 0 129), some (pvI x1), some (pvL x2), none, some (pvL x3), none, some (pvL j44), none]) (pc' := 38) dX11_joined_36 rfl (Nat.le_of_ble_eq_true rfl) rfl ?_
        refine go_lload_n (pc' := 39) dX11_joined_38 rfl rfl ?_
        refine go_ldc2 (pc' := 42) dX11_joined_39 rfl (r64_c rfl) rc_11_262 ?_
        refine go_lcmp (pc' := 43) dX11_joined_42 rfl ?_
        obtain ⟨j48, k49, h⟩ := bd h
        have k49J : Go none (Ev (d + 2)) mt215 81 [some (pvR 11 0 129), some (pvI x1), some (pvL x2), none, some (pvL x3), none, some (pvL j44), none] [pvL j48] (true, n, e, σ) (0, some (pvL r), true, n, e, σ) := by
          cases h
          exact go_lret dX11_joined_81 rfl rfl
        clear h
        have h := k49
        refine go_if_ne (t := 61) (pc' := 46) dX11_joined_43 rfl rfl (fun c63 => ?_) (fun c63 => ?_)
        · rw [if_pos (show (lcm x2 (-9223372036854775808)) ≠ 0 from c63)] at h
          refine go_aload_n (pc' := 62) dX11_joined_61 rfl rfl (Nat.le_of_ble_eq_true rfl) ?_
          refine go_lload_n (pc' := 63) dX11_joined_62 rfl rfl ?_
          refine go_ldc2 (pc' := 66) dX11_joined_63 rfl (r64_c rfl) rc_11_262 ?_
          refine go_lcmp (pc' := 67) dX11_joined_66 rfl ?_
          obtain ⟨j50, k51, h⟩ := bd h
          have k51J : Go none (Ev (d + 2)) mt215 75 [some (pvR 11 0 129), some (pvI x1), some (pvL x2), none, some (pvL x3), none, some (pvL j44), none] [pvL j50, pvR 11 0 129] (true, n, e, σ) (0, some (pvL r), true, n, e, σ) := by
            refine go_lload (pc' := 77) dX11_joined_75 rfl rfl ?_
            obtain ⟨g52, h⟩ := gd h
            refine go_ladd (pc' := 78) dX11_joined_77 rfl g52 ?_
            obtain ⟨v53, k54, h⟩ := bd h
            have k54 := l_M_bound (d + 1) n e σ (j50 + j44) _ k54
            refine go_call (kc := 213) (Mc := mt213) (v := some (pvL v53)) (w' := (true, n, e, σ)) (pc' := 81) (st' := [pvL v53]) [pvR 11 0 129, pvL (j50 + j44)] [] (Or.inl rfl) dX11_joined_78 rfl rm_11_281 mtE213 rfl rfl rfl (Nat.le_of_ble_eq_true rfl) (Or.inr ⟨_, _, 129, rfl, Or.inl rfl⟩) k54 rfl ?_
            cases h
            exact k49J
          clear h
          have h := k51
          refine go_if_ne (t := 74) (pc' := 70) dX11_joined_67 rfl rfl (fun c55 => ?_) (fun c55 => ?_)
          · rw [if_pos (show (lcm x2 (-9223372036854775808)) ≠ 0 from c55)] at h
            refine go_lload_n (pc' := 75) dX11_joined_74 rfl rfl ?_
            cases h
            exact k51J
          · rw [if_neg (show ¬ ((lcm x2 (-9223372036854775808)) ≠ 0) from c55)] at h
            refine go_lconst (z := 0) (pc' := 71) dX11_joined_70 rfl rfl ?_
            refine go_goto (t := 75) dX11_joined_71 rfl ?_
            cases h
            exact k51J
        · rw [if_neg (show ¬ ((lcm x2 (-9223372036854775808)) ≠ 0) from c63)] at h
          refine go_lload (pc' := 48) dX11_joined_46 rfl rfl ?_
          refine go_ldc2 (pc' := 51) dX11_joined_48 rfl (r64_c rfl) rc_11_262 ?_
          refine go_lcmp (pc' := 52) dX11_joined_51 rfl ?_
          refine go_if_ne (t := 61) (pc' := 55) dX11_joined_52 rfl rfl (fun c62 => ?_) (fun c62 => ?_)
          · rw [if_pos (show (lcm x3 (-9223372036854775808)) ≠ 0 from c62)] at h
            refine go_aload_n (pc' := 62) dX11_joined_61 rfl rfl (Nat.le_of_ble_eq_true rfl) ?_
            refine go_lload_n (pc' := 63) dX11_joined_62 rfl rfl ?_
            refine go_ldc2 (pc' := 66) dX11_joined_63 rfl (r64_c rfl) rc_11_262 ?_
            refine go_lcmp (pc' := 67) dX11_joined_66 rfl ?_
            obtain ⟨j56, k57, h⟩ := bd h
            have k57J : Go none (Ev (d + 2)) mt215 75 [some (pvR 11 0 129), some (pvI x1), some (pvL x2), none, some (pvL x3), none, some (pvL j44), none] [pvL j56, pvR 11 0 129] (true, n, e, σ) (0, some (pvL r), true, n, e, σ) := by
              refine go_lload (pc' := 77) dX11_joined_75 rfl rfl ?_
              obtain ⟨g58, h⟩ := gd h
              refine go_ladd (pc' := 78) dX11_joined_77 rfl g58 ?_
              obtain ⟨v59, k60, h⟩ := bd h
              have k60 := l_M_bound (d + 1) n e σ (j56 + j44) _ k60
              refine go_call (kc := 213) (Mc := mt213) (v := some (pvL v59)) (w' := (true, n, e, σ)) (pc' := 81) (st' := [pvL v59]) [pvR 11 0 129, pvL (j56 + j44)] [] (Or.inl rfl) dX11_joined_78 rfl rm_11_281 mtE213 rfl rfl rfl (Nat.le_of_ble_eq_true rfl) (Or.inr ⟨_, _, 129, rfl, Or.inl rfl⟩) k60 rfl ?_
              cases h
              exact k49J
            clear h
            have h := k57
            refine go_if_ne (t := 74) (pc' := 70) dX11_joined_67 rfl rfl (fun c61 => ?_) (fun c61 => ?_)
            · rw [if_pos (show (lcm x2 (-9223372036854775808)) ≠ 0 from c61)] at h
              refine go_lload_n (pc' := 75) dX11_joined_74 rfl rfl ?_
              cases h
              exact k57J
            · rw [if_neg (show ¬ ((lcm x2 (-9223372036854775808)) ≠ 0) from c61)] at h
              refine go_lconst (z := 0) (pc' := 71) dX11_joined_70 rfl rfl ?_
              refine go_goto (t := 75) dX11_joined_71 rfl ?_
              cases h
              exact k57J
          · rw [if_neg (show ¬ ((lcm x3 (-9223372036854775808)) ≠ 0) from c62)] at h
            refine go_ldc2 (pc' := 58) dX11_joined_55 rfl (r64_c rfl) rc_11_262 ?_
            refine go_goto (t := 81) dX11_joined_58 rfl ?_
            cases h
            exact k49J
      clear h
      have h := k45
      refine go_if_ne (t := 23) (pc' := 19) dX11_joined_16 rfl rfl (fun c64 => ?_) (fun c64 => ?_)
      · rw [if_pos (show (lcm x3 (-9223372036854775808)) ≠ 0 from c64)] at h
        refine go_iload_n (pc' := 24) dX11_joined_23 rfl rfl ?_
        refine go_iconst (pc' := 25) dX11_joined_24 rfl (r32_c rfl) ?_
        refine go_icmp_ne (t := 33) (pc' := 28) dX11_joined_25 rfl rfl (fun c47 => ?_) (fun c47 => ?_)
        · rw [if_pos (show x1 ≠ 3 from c47)] at h
          refine go_lload (pc' := 35) dX11_joined_33 rfl rfl ?_
          obtain ⟨g46, h⟩ := gd h
          refine go_lneg (pc' := 36) dX11_joined_35 rfl g46 ?_
          cases h
          exact k45J
        · rw [if_neg (show ¬ (x1 ≠ 3) from c47)] at h
          refine go_lload (pc' := 30) dX11_joined_28 rfl rfl ?_
          refine go_goto (t := 36) dX11_joined_30 rfl ?_
          cases h
          exact k45J
      · rw [if_neg (show ¬ ((lcm x3 (-9223372036854775808)) ≠ 0) from c64)] at h
        refine go_lconst (z := 0) (pc' := 20) dX11_joined_19 rfl rfl ?_
        refine go_goto (t := 36) dX11_joined_20 rfl ?_
        cases h
        exact k45J

set_option maxRecDepth 10000 in
theorem l_M_date_19 (V : Hp → Int → Int → Int → Int → Int → Option (Int × Hp)) (u : Nat) (hV : ∀ (d n e : Nat) (σ : Hp) (x1 : Int) (x2 : Int) (x3 : Int) (x4 : Int) (x5 : Int) (r : Int × Hp), V σ x1 x2 x3 x4 x5 = some r → Ev (d + u) 209 [pvR 11 0 129, pvI x1, pvI x2, pvI x3, pvI x4, pvI x5] (true, n, e, σ) (0, some (pvL r.1), true, n, e, r.2)) (d : Nat) (n : Nat) (e : Nat) (x1 : Int) (x2 : Int) (x3 : Int) (x4 : Int) (x5 : Int) (x6 : Int) (x7 : Int) (j1 : Int) {out : Out} : ∀ (F : Nat) (y3 : Int) (y4 : Int) (σ5 : Hp) (j35 : Int × Int × Hp), f_M_date_19 V x1 x2 x4 x5 x6 x7 j1 F y3 y4 σ5 = some j35 → Go none (Ev (d + u + 3)) mt214 144 [some (pvR 11 0 129), some (pvI x1), some (pvI x2), some (pvI x3), some (pvI x4), some (pvI x5), some (pvI x6), some (pvI x7), some (pvI j1), some (pvL j35.1), none, some (pvI j35.2.1), none] [] (true, n, e, j35.2.2) out → Go none (Ev (d + u + 3)) mt214 19 [some (pvR 11 0 129), some (pvI x1), some (pvI x2), some (pvI x3), some (pvI x4), some (pvI x5), some (pvI x6), some (pvI x7), some (pvI j1), some (pvL y3), none, some (pvI y4), none] [] (true, n, e, σ5) out := by
  intro F
  induction F with
  | zero =>
    intro _ _ _ _ h
    intro _
    rw [f_M_date_19] at h
    cases h
  | succ F ih =>
    intro y3 y4 σ5 j35 h hx
    rw [f_M_date_19] at h
    refine go_iload (pc' := 21) dX11_date_19 rfl rfl ?_
    refine go_iload (pc' := 23) dX11_date_21 rfl rfl ?_
    refine go_icmp_gt (t := 144) (pc' := 26) dX11_date_23 rfl rfl (fun c34 => ?_) (fun c34 => ?_)
    · rw [if_pos (show j1 < y4 from c34)] at h
      cases h
      exact hx
    · rw [if_neg (show ¬ (j1 < y4) from c34)] at h
      refine go_aload_n (pc' := 27) dX11_date_26 rfl rfl (Nat.le_of_ble_eq_true rfl) ?_
      refine go_iconst (pc' := 28) dX11_date_27 rfl (r32_c rfl) ?_
      refine go_iload (pc' := 30) dX11_date_28 rfl rfl ?_
      obtain ⟨v6, k7, h⟩ := bd h
      have k7 := l_M_isPlain (d + u + 2) n e σ5 0 j1 _ k7
      refine go_call (kc := 173) (Mc := mt173) (v := some (pvI v6)) (w' := (true, n, e, σ5)) (pc' := 33) (st' := [pvI v6]) [pvR 11 0 129, pvI 0, pvI j1] [] (Or.inl rfl) dX11_date_30 rfl rm_11_180 mtE173 rfl rfl rfl (Nat.le_of_ble_eq_true rfl) (Or.inr ⟨_, _, 129, rfl, Or.inl rfl⟩) k7 rfl ?_
      refine go_if_eq (t := 144) (pc' := 36) dX11_date_33 rfl rfl (fun c33 => ?_) (fun c33 => ?_)
      · rw [if_pos (show v6 = 0 from c33)] at h
        cases h
        exact hx
      · rw [if_neg (show ¬ (v6 = 0) from c33)] at h
        refine go_iload (pc' := 38) dX11_date_36 rfl rfl ?_
        refine go_iload (pc' := 40) dX11_date_38 rfl rfl ?_
        obtain ⟨j8, k9, h⟩ := bd h
        have k9J : Go none (Ev (d + u + 3)) mt214 85 [some (pvR 11 0 129), some (pvI x1), some (pvI x2), some (pvI x3), some (pvI x4), some (pvI x5), some (pvI x6), some (pvI x7), some (pvI j1), some (pvL y3), none, some (pvI y4), none] [pvI j8] (true, n, e, σ5) out := by
          refine go_istore (L' := [some (pvR 11 0 129), some (pvI x1), some (pvI x2), some (pvI x3), some (pvI x4), some (pvI x5), some (pvI x6), some (pvI x7), some (pvI j1), some (pvL y3), none, some (pvI y4), some (pvI j8)]) (pc' := 87) dX11_date_85 rfl (Nat.le_of_ble_eq_true rfl) rfl ?_
          refine go_iload (pc' := 89) dX11_date_87 rfl rfl ?_
          obtain ⟨j18, k19, h⟩ := bd h
          have k19J : Go none (Ev (d + u + 3)) mt214 136 [some (pvR 11 0 129), some (pvI x1), some (pvI x2), some (pvI x3), some (pvI x4), some (pvI x5), some (pvI x6), some (pvI x7), some (pvI j1), some (pvL y3), none, some (pvI y4), some (pvI j8)] [pvL j18.1] (true, n, e, j18.2) out := by
            refine go_lstore (L' := [some (pvR 11 0 129), some (pvI x1), some (pvI x2), some (pvI x3), some (pvI x4), some (pvI x5), some (pvI x6), some (pvI x7), some (pvI j1), some (pvL j18.1), none, some (pvI y4), some (pvI j8)]) (pc' := 138) dX11_date_136 rfl (Nat.le_of_ble_eq_true rfl) rfl ?_
            obtain ⟨g30, h⟩ := gd h
            refine go_iinc (L' := [some (pvR 11 0 129), some (pvI x1), some (pvI x2), some (pvI x3), some (pvI x4), some (pvI x5), some (pvI x6), some (pvI x7), some (pvI j1), some (pvL j18.1), none, some (pvI (y4 + 1)), some (pvI j8)]) (pc' := 141) dX11_date_138 rfl rfl g30 rfl ?_
            refine go_goto (t := 19) dX11_date_141 rfl ?_
            exact go_sub (ih j18.1 (y4 + 1) j18.2 _ h hx) ⟨Or.inr rfl, Or.inr rfl, Or.inr rfl, Or.inr rfl, Or.inr rfl, Or.inr rfl, Or.inr rfl, Or.inr rfl, Or.inr rfl, Or.inr rfl, Or.inr rfl, Or.inr rfl, Or.inl rfl, trivial⟩
          clear h
          have h := k19
          refine go_if_eq (t := 134) (pc' := 92) dX11_date_89 rfl rfl (fun c31 => ?_) (fun c31 => ?_)
          · rw [if_pos (show j8 = 0 from c31)] at h
            refine go_lload (pc' := 136) dX11_date_134 rfl rfl ?_
            cases h
            exact k19J
          · rw [if_neg (show ¬ (j8 = 0) from c31)] at h
            refine go_aload_n (pc' := 93) dX11_date_92 rfl rfl (Nat.le_of_ble_eq_true rfl) ?_
            refine go_iconst (pc' := 94) dX11_date_93 rfl (r32_c rfl) ?_
            refine go_lload (pc' := 96) dX11_date_94 rfl rfl ?_
            refine go_aload_n (pc' := 97) dX11_date_96 rfl rfl (Nat.le_of_ble_eq_true rfl) ?_
            refine go_iload (pc' := 99) dX11_date_97 rfl rfl ?_
            refine go_iload_n (pc' := 100) dX11_date_99 rfl rfl ?_
            refine go_iconst (pc' := 101) dX11_date_100 rfl (r32_c rfl) ?_
            obtain ⟨j20, k21, h⟩ := bd h
            have k21J : Go none (Ev (d + u + 3)) mt214 110 [some (pvR 11 0 129), some (pvI x1), some (pvI x2), some (pvI x3), some (pvI x4), some (pvI x5), some (pvI x6), some (pvI x7), some (pvI j1), some (pvL y3), none, some (pvI y4), some (pvI j8)] [pvI j20, pvI y4, pvR 11 0 129, pvL y3, pvI 3, pvR 11 0 129] (true, n, e, σ5) out := by
              refine go_iload_n (pc' := 111) dX11_date_110 rfl rfl ?_
              refine go_iconst (pc' := 112) dX11_date_111 rfl (r32_c rfl) ?_
              obtain ⟨j22, k23, h⟩ := bd h
              have k23J : Go none (Ev (d + u + 3)) mt214 121 [some (pvR 11 0 129), some (pvI x1), some (pvI x2), some (pvI x3), some (pvI x4), some (pvI x5), some (pvI x6), some (pvI x7), some (pvI j1), some (pvL y3), none, some (pvI y4), some (pvI j8)] [pvI j22, pvI j20, pvI y4, pvR 11 0 129, pvL y3, pvI 3, pvR 11 0 129] (true, n, e, σ5) out := by
                refine go_iload (pc' := 123) dX11_date_121 rfl rfl ?_
                refine go_iload (pc' := 125) dX11_date_123 rfl rfl ?_
                obtain ⟨v24, k25, h⟩ := bd h
                have k25 := (by have z := hV (d + 3) n e σ5 y4 j20 j22 x6 x7 _ k25; rwa [show d + 3 + u = d + u + 3 by omega] at z)
                refine go_call (kc := 209) (Mc := mt209) (v := some (pvL v24.1)) (w' := (true, n, e, v24.2)) (pc' := 128) (st' := [pvL v24.1, pvL y3, pvI 3, pvR 11 0 129]) [pvR 11 0 129, pvI y4, pvI j20, pvI j22, pvI x6, pvI x7] [pvL y3, pvI 3, pvR 11 0 129] (Or.inl rfl) dX11_date_125 rfl rm_11_275 mtE209 rfl rfl rfl (Nat.le_of_ble_eq_true rfl) (Or.inr ⟨_, _, 129, rfl, Or.inl rfl⟩) k25 rfl ?_
                obtain ⟨v26, k27, h⟩ := bd h
                have k27 := l_M_joined (d + u + 0) n e v24.2 3 y3 v24.1 _ k27
                refine go_call (kc := 215) (Mc := mt215) (v := some (pvL v26)) (w' := (true, n, e, v24.2)) (pc' := 131) (st' := [pvL v26]) [pvR 11 0 129, pvI 3, pvL y3, pvL v24.1] [] (Or.inl rfl) dX11_date_128 rfl rm_11_296 mtE215 rfl rfl rfl (Nat.le_of_ble_eq_true rfl) (Or.inr ⟨_, _, 129, rfl, Or.inl rfl⟩) k27 rfl ?_
                refine go_goto (t := 136) dX11_date_131 rfl ?_
                cases h
                exact k19J
              clear h
              have h := k23
              refine go_icmp_ne (t := 119) (pc' := 115) dX11_date_112 rfl rfl (fun c28 => ?_) (fun c28 => ?_)
              · rw [if_pos (show x1 ≠ 2 from c28)] at h
                refine go_iload (pc' := 121) dX11_date_119 rfl rfl ?_
                cases h
                exact k23J
              · rw [if_neg (show ¬ (x1 ≠ 2) from c28)] at h
                refine go_iload_n (pc' := 116) dX11_date_115 rfl rfl ?_
                refine go_goto (t := 121) dX11_date_116 rfl ?_
                cases h
                exact k23J
            clear h
            have h := k21
            refine go_icmp_ne (t := 108) (pc' := 104) dX11_date_101 rfl rfl (fun c29 => ?_) (fun c29 => ?_)
            · rw [if_pos (show x1 ≠ 1 from c29)] at h
              refine go_iload (pc' := 110) dX11_date_108 rfl rfl ?_
              cases h
              exact k21J
            · rw [if_neg (show ¬ (x1 ≠ 1) from c29)] at h
              refine go_iload_n (pc' := 105) dX11_date_104 rfl rfl ?_
              refine go_goto (t := 110) dX11_date_105 rfl ?_
              cases h
              exact k21J
        clear h
        have h := k9
        refine go_icmp_eq (t := 80) (pc' := 43) dX11_date_40 rfl rfl (fun c32 => ?_) (fun c32 => ?_)
        · rw [if_pos (show y4 = j1 from c32)] at h
          refine go_iconst (pc' := 81) dX11_date_80 rfl (r32_c rfl) ?_
          refine go_goto (t := 85) dX11_date_81 rfl ?_
          cases h
          exact k9J
        · rw [if_neg (show ¬ (y4 = j1) from c32)] at h
          refine go_iload (pc' := 45) dX11_date_43 rfl rfl ?_
          refine go_if_le (t := 84) (pc' := 48) dX11_date_45 rfl rfl (fun c17 => ?_) (fun c17 => ?_)
          · rw [if_pos (show j1 ≤ 0 from c17)] at h
            refine go_iconst (pc' := 85) dX11_date_84 rfl (r32_c rfl) ?_
            cases h
            exact k9J
          · rw [if_neg (show ¬ (j1 ≤ 0) from c17)] at h
            refine go_iload (pc' := 50) dX11_date_48 rfl rfl ?_
            refine go_if_le (t := 84) (pc' := 53) dX11_date_50 rfl rfl (fun c16 => ?_) (fun c16 => ?_)
            · rw [if_pos (show y4 ≤ 0 from c16)] at h
              refine go_iconst (pc' := 85) dX11_date_84 rfl (r32_c rfl) ?_
              cases h
              exact k9J
            · rw [if_neg (show ¬ (y4 ≤ 0) from c16)] at h
              refine go_aload_n (pc' := 54) dX11_date_53 rfl rfl (Nat.le_of_ble_eq_true rfl) ?_
              refine go_iconst (pc' := 55) dX11_date_54 rfl (r32_c rfl) ?_
              refine go_iload (pc' := 57) dX11_date_55 rfl rfl ?_
              obtain ⟨v10, k11, h⟩ := bd h
              have k11 := l_M_isPlain (d + u + 2) n e σ5 0 y4 _ k11
              refine go_call (kc := 173) (Mc := mt173) (v := some (pvI v10)) (w' := (true, n, e, σ5)) (pc' := 60) (st' := [pvI v10]) [pvR 11 0 129, pvI 0, pvI y4] [] (Or.inl rfl) dX11_date_57 rfl rm_11_180 mtE173 rfl rfl rfl (Nat.le_of_ble_eq_true rfl) (Or.inr ⟨_, _, 129, rfl, Or.inl rfl⟩) k11 rfl ?_
              refine go_if_eq (t := 84) (pc' := 63) dX11_date_60 rfl rfl (fun c15 => ?_) (fun c15 => ?_)
              · rw [if_pos (show v10 = 0 from c15)] at h
                refine go_iconst (pc' := 85) dX11_date_84 rfl (r32_c rfl) ?_
                cases h
                exact k9J
              · rw [if_neg (show ¬ (v10 = 0) from c15)] at h
                refine go_aload_n (pc' := 64) dX11_date_63 rfl rfl (Nat.le_of_ble_eq_true rfl) ?_
                refine go_getR (k' := 12) (L0 := 36) (P' := 132) (pc' := 67) dX11_date_64 rfl rf_11_18 rfl rfl (by omega) ?_
                refine go_iload (pc' := 69) dX11_date_67 rfl rfl ?_
                obtain ⟨g12, h⟩ := gd h
                refine go_iald (pc' := 70) dX11_date_69 rfl g12 ?_
                refine go_aload_n (pc' := 71) dX11_date_70 rfl rfl (Nat.le_of_ble_eq_true rfl) ?_
                refine go_getR (k' := 12) (L0 := 36) (P' := 132) (pc' := 74) dX11_date_71 rfl rf_11_18 rfl rfl (by omega) ?_
                refine go_iload (pc' := 76) dX11_date_74 rfl rfl ?_
                obtain ⟨g13, h⟩ := gd h
                refine go_iald (pc' := 77) dX11_date_76 rfl g13 ?_
                refine go_icmp_ne (t := 84) (pc' := 80) dX11_date_77 rfl rfl (fun c14 => ?_) (fun c14 => ?_)
                · rw [if_pos (show (σ5 132 y4) ≠ (σ5 132 j1) from c14)] at h
                  refine go_iconst (pc' := 85) dX11_date_84 rfl (r32_c rfl) ?_
                  cases h
                  exact k9J
                · rw [if_neg (show ¬ ((σ5 132 y4) ≠ (σ5 132 j1)) from c14)] at h
                  refine go_iconst (pc' := 81) dX11_date_80 rfl (r32_c rfl) ?_
                  refine go_goto (t := 85) dX11_date_81 rfl ?_
                  cases h
                  exact k9J

set_option maxRecDepth 10000 in
theorem l_M_date (V : Hp → Int → Int → Int → Int → Int → Option (Int × Hp)) (u : Nat) (hV : ∀ (d n e : Nat) (σ : Hp) (x1 : Int) (x2 : Int) (x3 : Int) (x4 : Int) (x5 : Int) (r : Int × Hp), V σ x1 x2 x3 x4 x5 = some r → Ev (d + u) 209 [pvR 11 0 129, pvI x1, pvI x2, pvI x3, pvI x4, pvI x5] (true, n, e, σ) (0, some (pvL r.1), true, n, e, r.2)) (d : Nat) (n e : Nat) (σ : Hp) (x1 : Int) (x2 : Int) (x3 : Int) (x4 : Int) (x5 : Int) (x6 : Int) (x7 : Int) (r : Int × Hp) (h : f_M_date V σ x1 x2 x3 x4 x5 x6 x7 = some r) : Ev (d + u + 4) 214 [pvR 11 0 129, pvI x1, pvI x2, pvI x3, pvI x4, pvI x5, pvI x6, pvI x7] (true, n, e, σ) (0, some (pvL r.1), true, n, e, r.2) := by
  unfold f_M_date at h
  refine Ev.of mtE214 rfl rfl rfl rfl ?_
  show Go none (Ev (d + u + 3)) mt214 0 [some (pvR 11 0 129), some (pvI x1), some (pvI x2), some (pvI x3), some (pvI x4), some (pvI x5), some (pvI x6), some (pvI x7), none, none, none, none, none] [] (true, n, e, σ) (0, some (pvL r.1), true, n, e, r.2)
  refine go_iload_n (pc' := 1) dX11_date_0 rfl rfl ?_
  obtain ⟨j1, k2, h⟩ := bd h
  have k2J : Go none (Ev (d + u + 3)) mt214 9 [some (pvR 11 0 129), some (pvI x1), some (pvI x2), some (pvI x3), some (pvI x4), some (pvI x5), some (pvI x6), some (pvI x7), none, none, none, none, none] [pvI j1] (true, n, e, σ) (0, some (pvL r.1), true, n, e, r.2) := by
    refine go_istore (L' := [some (pvR 11 0 129), some (pvI x1), some (pvI x2), some (pvI x3), some (pvI x4), some (pvI x5), some (pvI x6), some (pvI x7), some (pvI j1), none, none, none, none]) (pc' := 11) dX11_date_9 rfl (Nat.le_of_ble_eq_true rfl) rfl ?_
    refine go_ldc2 (pc' := 14) dX11_date_11 rfl (r64_c rfl) rc_11_262 ?_
    refine go_lstore (L' := [some (pvR 11 0 129), some (pvI x1), some (pvI x2), some (pvI x3), some (pvI x4), some (pvI x5), some (pvI x6), some (pvI x7), some (pvI j1), some (pvL (-9223372036854775808)), none, none, none]) (pc' := 16) dX11_date_14 rfl (Nat.le_of_ble_eq_true rfl) rfl ?_
    refine go_iconst (pc' := 17) dX11_date_16 rfl (r32_c rfl) ?_
    refine go_istore (L' := [some (pvR 11 0 129), some (pvI x1), some (pvI x2), some (pvI x3), some (pvI x4), some (pvI x5), some (pvI x6), some (pvI x7), some (pvI j1), some (pvL (-9223372036854775808)), none, some (pvI 0), none]) (pc' := 19) dX11_date_17 rfl (Nat.le_of_ble_eq_true rfl) rfl ?_
    obtain ⟨j36, k37, h⟩ := bd h
    refine l_M_date_19 V u hV d n e x1 x2 x3 x4 x5 x6 x7 j1 zFuel (-9223372036854775808) 0 σ _ k37 ?_
    refine go_lload (pc' := 146) dX11_date_144 rfl rfl ?_
    cases h
    exact go_lret dX11_date_146 rfl rfl
  clear h
  have h := k2
  refine go_if_ne (t := 8) (pc' := 4) dX11_date_1 rfl rfl (fun c38 => ?_) (fun c38 => ?_)
  · rw [if_pos (show x1 ≠ 0 from c38)] at h
    refine go_iload_n (pc' := 9) dX11_date_8 rfl rfl ?_
    cases h
    exact k2J
  · rw [if_neg (show ¬ (x1 ≠ 0) from c38)] at h
    refine go_iload_n (pc' := 5) dX11_date_4 rfl rfl ?_
    refine go_goto (t := 9) dX11_date_5 rfl ?_
    cases h
    exact k2J

set_option maxRecDepth 10000 in
theorem l_M_formula_45 (V : Hp → Int → Int → Int → Int → Int → Option (Int × Hp)) (u : Nat) (hV : ∀ (d n e : Nat) (σ : Hp) (x1 : Int) (x2 : Int) (x3 : Int) (x4 : Int) (x5 : Int) (r : Int × Hp), V σ x1 x2 x3 x4 x5 = some r → Ev (d + u) 209 [pvR 11 0 129, pvI x1, pvI x2, pvI x3, pvI x4, pvI x5] (true, n, e, σ) (0, some (pvL r.1), true, n, e, r.2)) (d : Nat) (n : Nat) (e : Nat) (σ : Hp) (x1 : Int) (x2 : Int) (x3 : Int) (x4 : Int) (x5 : Int) (x6 : Int) (j2 : Int) {out : Out} : ∀ (F : Nat) (y7 : Int) (y8 : Int) (σ9 : Hp) (j37 : Int × Int × Hp), f_M_formula_45 V x1 x2 x3 x4 x5 x6 j2 F y7 y8 σ9 = some j37 → Go none (Ev (d + u + 5)) mt210 213 [some (pvR 11 0 129), some (pvI x1), some (pvI x2), some (pvI x3), some (pvI x4), some (pvI x5), some (pvI x6), some (pvI ((12 * x1) + j2)), some (pvI (σ 129 46)), some (pvI j37.1), some (pvI j37.2.1), none, none, none] [] (true, n, e, j37.2.2) out → Go none (Ev (d + u + 5)) mt210 45 [some (pvR 11 0 129), some (pvI x1), some (pvI x2), some (pvI x3), some (pvI x4), some (pvI x5), some (pvI x6), some (pvI ((12 * x1) + j2)), some (pvI (σ 129 46)), some (pvI y7), some (pvI y8), none, none, none] [] (true, n, e, σ9) out := by
  intro F
  induction F with
  | zero =>
    intro _ _ _ _ h
    intro _
    rw [f_M_formula_45] at h
    cases h
  | succ F ih =>
    intro y7 y8 σ9 j37 h hx
    rw [f_M_formula_45] at h
    refine go_iload (pc' := 47) dX11_formula_45 rfl rfl ?_
    refine go_bipush (pc' := 49) dX11_formula_47 rfl (r32_c rfl) (by decide) ?_
    refine go_iload (pc' := 51) dX11_formula_49 rfl rfl ?_
    obtain ⟨g10, h⟩ := gd h
    refine go_imul (pc' := 52) dX11_formula_51 rfl g10 ?_
    refine go_aload_n (pc' := 53) dX11_formula_52 rfl rfl (Nat.le_of_ble_eq_true rfl) ?_
    refine go_getR (k' := 12) (L0 := 37) (P' := 140) (pc' := 56) dX11_formula_53 rfl rf_11_42 rfl rfl (by omega) ?_
    refine go_iload (pc' := 58) dX11_formula_56 rfl rfl ?_
    obtain ⟨g11, h⟩ := gd h
    refine go_iald (pc' := 59) dX11_formula_58 rfl g11 ?_
    obtain ⟨g12, h⟩ := gd h
    refine go_iadd (pc' := 60) dX11_formula_59 rfl g12 ?_
    refine go_icmp_ge (t := 213) (pc' := 63) dX11_formula_60 rfl rfl (fun c36 => ?_) (fun c36 => ?_)
    · rw [if_pos (show ((10 * ((12 * x1) + j2)) + (σ9 140 ((12 * x1) + j2))) ≤ y8 from c36)] at h
      cases h
      exact hx
    · rw [if_neg (show ¬ (((10 * ((12 * x1) + j2)) + (σ9 140 ((12 * x1) + j2))) ≤ y8) from c36)] at h
      refine go_aload_n (pc' := 64) dX11_formula_63 rfl rfl (Nat.le_of_ble_eq_true rfl) ?_
      refine go_getR (k' := 12) (L0 := 370) (P' := 137) (pc' := 67) dX11_formula_64 rfl rf_11_33 rfl rfl (by omega) ?_
      refine go_iload (pc' := 69) dX11_formula_67 rfl rfl ?_
      obtain ⟨g13, h⟩ := gd h
      refine go_iald (pc' := 70) dX11_formula_69 rfl g13 ?_
      refine go_istore (L' := [some (pvR 11 0 129), some (pvI x1), some (pvI x2), some (pvI x3), some (pvI x4), some (pvI x5), some (pvI x6), some (pvI ((12 * x1) + j2)), some (pvI (σ 129 46)), some (pvI y7), some (pvI y8), some (pvI (σ9 137 y8)), none, none]) (pc' := 72) dX11_formula_70 rfl (Nat.le_of_ble_eq_true rfl) rfl ?_
      refine go_aload_n (pc' := 73) dX11_formula_72 rfl rfl (Nat.le_of_ble_eq_true rfl) ?_
      refine go_iload (pc' := 75) dX11_formula_73 rfl rfl ?_
      refine go_putI (pc' := 78) dX11_formula_75 rfl rf_11_300 rfl ?_
      refine go_lconst (z := 0) (pc' := 79) dX11_formula_78 rfl rfl ?_
      refine go_lstore (L' := [some (pvR 11 0 129), some (pvI x1), some (pvI x2), some (pvI x3), some (pvI x4), some (pvI x5), some (pvI x6), some (pvI ((12 * x1) + j2)), some (pvI (σ 129 46)), some (pvI y7), some (pvI y8), some (pvI (σ9 137 y8)), some (pvL 0), none]) (pc' := 81) dX11_formula_79 rfl (Nat.le_of_ble_eq_true rfl) rfl ?_
      refine go_iload (pc' := 83) dX11_formula_81 rfl rfl ?_
      obtain ⟨j14, k15, h⟩ := bd h
      have k15J : Go none (Ev (d + u + 5)) mt210 195 [some (pvR 11 0 129), some (pvI x1), some (pvI x2), some (pvI x3), some (pvI x4), some (pvI x5), some (pvI x6), some (pvI ((12 * x1) + j2)), some (pvI (σ 129 46)), some (pvI j14.1), some (pvI y8), some (pvI (σ9 137 y8)), some (pvL j14.2.1), none] [] (true, n, e, j14.2.2) out := by
        refine go_aload_n (pc' := 196) dX11_formula_195 rfl rfl (Nat.le_of_ble_eq_true rfl) ?_
        refine go_getR (k' := 13) (L0 := 3700) (P' := 166) (pc' := 199) dX11_formula_196 rfl rf_11_128 rfl rfl (by omega) ?_
        refine go_iload (pc' := 201) dX11_formula_199 rfl rfl ?_
        refine go_lload (pc' := 203) dX11_formula_201 rfl rfl ?_
        obtain ⟨g32, h⟩ := gd h
        refine go_last (pc' := 204) dX11_formula_203 rfl g32 ?_
        obtain ⟨g33, h⟩ := gd h
        refine go_iinc (L' := [some (pvR 11 0 129), some (pvI x1), some (pvI x2), some (pvI x3), some (pvI x4), some (pvI x5), some (pvI x6), some (pvI ((12 * x1) + j2)), some (pvI (σ 129 46)), some (pvI (j14.1 + 1)), some (pvI y8), some (pvI (σ9 137 y8)), some (pvL j14.2.1), none]) (pc' := 207) dX11_formula_204 rfl rfl g33 rfl ?_
        obtain ⟨g34, h⟩ := gd h
        refine go_iinc (L' := [some (pvR 11 0 129), some (pvI x1), some (pvI x2), some (pvI x3), some (pvI x4), some (pvI x5), some (pvI x6), some (pvI ((12 * x1) + j2)), some (pvI (σ 129 46)), some (pvI (j14.1 + 1)), some (pvI (y8 + 1)), some (pvI (σ9 137 y8)), some (pvL j14.2.1), none]) (pc' := 210) dX11_formula_207 rfl rfl g34 rfl ?_
        refine go_goto (t := 45) dX11_formula_210 rfl ?_
        exact go_sub (ih (j14.1 + 1) (y8 + 1) (hset j14.2.2 166 j14.1 j14.2.1) _ h hx) ⟨Or.inr rfl, Or.inr rfl, Or.inr rfl, Or.inr rfl, Or.inr rfl, Or.inr rfl, Or.inr rfl, Or.inr rfl, Or.inr rfl, Or.inr rfl, Or.inr rfl, Or.inl rfl, Or.inl rfl, Or.inr rfl, trivial⟩
      clear h
      have h := k15
      refine go_if_ne (t := 99) (pc' := 86) dX11_formula_83 rfl rfl (fun c35 => ?_) (fun c35 => ?_)
      · rw [if_pos (show (σ9 137 y8) ≠ 0 from c35)] at h
        refine go_iload (pc' := 101) dX11_formula_99 rfl rfl ?_
        refine go_iconst (pc' := 102) dX11_formula_101 rfl (r32_c rfl) ?_
        refine go_icmp_ne (t := 137) (pc' := 105) dX11_formula_102 rfl rfl (fun c30 => ?_) (fun c30 => ?_)
        · rw [if_pos (show (σ9 137 y8) ≠ 1 from c30)] at h
          refine go_iload (pc' := 139) dX11_formula_137 rfl rfl ?_
          refine go_iconst (pc' := 140) dX11_formula_139 rfl (r32_c rfl) ?_
          refine go_icmp_ne (t := 168) (pc' := 143) dX11_formula_140 rfl rfl (fun c25 => ?_) (fun c25 => ?_)
          · rw [if_pos (show (σ9 137 y8) ≠ 2 from c25)] at h
            obtain ⟨g16, h⟩ := gd h
            refine go_iinc (L' := [some (pvR 11 0 129), some (pvI x1), some (pvI x2), some (pvI x3), some (pvI x4), some (pvI x5), some (pvI x6), some (pvI ((12 * x1) + j2)), some (pvI (σ 129 46)), some (pvI (y7 + (-2))), some (pvI y8), some (pvI (σ9 137 y8)), some (pvL 0), none]) (pc' := 171) dX11_formula_168 rfl rfl g16 rfl ?_
            refine go_aload_n (pc' := 172) dX11_formula_171 rfl rfl (Nat.le_of_ble_eq_true rfl) ?_
            refine go_iload (pc' := 174) dX11_formula_172 rfl rfl ?_
            refine go_aload_n (pc' := 175) dX11_formula_174 rfl rfl (Nat.le_of_ble_eq_true rfl) ?_
            refine go_getR (k' := 13) (L0 := 3700) (P' := 166) (pc' := 178) dX11_formula_175 rfl rf_11_128 rfl rfl (by omega) ?_
            refine go_iload (pc' := 180) dX11_formula_178 rfl rfl ?_
            obtain ⟨g17, h⟩ := gd h
            refine go_lald (pc' := 181) dX11_formula_180 rfl g17 ?_
            refine go_aload_n (pc' := 182) dX11_formula_181 rfl rfl (Nat.le_of_ble_eq_true rfl) ?_
            refine go_getR (k' := 13) (L0 := 3700) (P' := 166) (pc' := 185) dX11_formula_182 rfl rf_11_128 rfl rfl (by omega) ?_
            refine go_iload (pc' := 187) dX11_formula_185 rfl rfl ?_
            refine go_iconst (pc' := 188) dX11_formula_187 rfl (r32_c rfl) ?_
            obtain ⟨g18, h⟩ := gd h
            refine go_iadd (pc' := 189) dX11_formula_188 rfl g18 ?_
            obtain ⟨g19, h⟩ := gd h
            refine go_lald (pc' := 190) dX11_formula_189 rfl g19 ?_
            obtain ⟨v20, k21, h⟩ := bd h
            have k21 := l_M_joined (d + u + 2) n e (hset σ9 129 46 y7) (σ9 137 y8) ((hset σ9 129 46 y7) 166 (y7 + (-2))) ((hset σ9 129 46 y7) 166 ((y7 + (-2)) + 1)) _ k21
            refine go_call (kc := 215) (Mc := mt215) (v := some (pvL v20)) (w' := (true, n, e, (hset σ9 129 46 y7))) (pc' := 193) (st' := [pvL v20]) [pvR 11 0 129, pvI (σ9 137 y8), pvL ((hset σ9 129 46 y7) 166 (y7 + (-2))), pvL ((hset σ9 129 46 y7) 166 ((y7 + (-2)) + 1))] [] (Or.inl rfl) dX11_formula_190 rfl rm_11_296 mtE215 rfl rfl rfl (Nat.le_of_ble_eq_true rfl) (Or.inr ⟨_, _, 129, rfl, Or.inl rfl⟩) k21 rfl ?_
            refine go_lstore (L' := [some (pvR 11 0 129), some (pvI x1), some (pvI x2), some (pvI x3), some (pvI x4), some (pvI x5), some (pvI x6), some (pvI ((12 * x1) + j2)), some (pvI (σ 129 46)), some (pvI (y7 + (-2))), some (pvI y8), some (pvI (σ9 137 y8)), some (pvL v20), none]) (pc' := 195) dX11_formula_193 rfl (Nat.le_of_ble_eq_true rfl) rfl ?_
            cases h
            exact k15J
          · rw [if_neg (show ¬ ((σ9 137 y8) ≠ 2) from c25)] at h
            refine go_aload_n (pc' := 144) dX11_formula_143 rfl rfl (Nat.le_of_ble_eq_true rfl) ?_
            refine go_iload_n (pc' := 145) dX11_formula_144 rfl rfl ?_
            refine go_aload_n (pc' := 146) dX11_formula_145 rfl rfl (Nat.le_of_ble_eq_true rfl) ?_
            refine go_getR (k' := 12) (L0 := 370) (P' := 138) (pc' := 149) dX11_formula_146 rfl rf_11_36 rfl rfl (by omega) ?_
            refine go_iload (pc' := 151) dX11_formula_149 rfl rfl ?_
            obtain ⟨g22, h⟩ := gd h
            refine go_iald (pc' := 152) dX11_formula_151 rfl g22 ?_
            refine go_iload_n (pc' := 153) dX11_formula_152 rfl rfl ?_
            refine go_iload_n (pc' := 154) dX11_formula_153 rfl rfl ?_
            refine go_iload (pc' := 156) dX11_formula_154 rfl rfl ?_
            refine go_iload (pc' := 158) dX11_formula_156 rfl rfl ?_
            refine go_iload (pc' := 160) dX11_formula_158 rfl rfl ?_
            obtain ⟨v23, k24, h⟩ := bd h
            have k24 := (by have z := l_M_date V u hV (d + 1) n e (hset σ9 129 46 y7) x1 ((hset σ9 129 46 y7) 138 y8) x2 x3 x4 x5 x6 _ k24; rwa [show d + 1 + u + 4 = d + u + 5 by omega] at z)
            refine go_call (kc := 214) (Mc := mt214) (v := some (pvL v23.1)) (w' := (true, n, e, v23.2)) (pc' := 163) (st' := [pvL v23.1]) [pvR 11 0 129, pvI x1, pvI ((hset σ9 129 46 y7) 138 y8), pvI x2, pvI x3, pvI x4, pvI x5, pvI x6] [] (Or.inl rfl) dX11_formula_160 rfl rm_11_307 mtE214 rfl rfl rfl (Nat.le_of_ble_eq_true rfl) (Or.inr ⟨_, _, 129, rfl, Or.inl rfl⟩) k24 rfl ?_
            refine go_lstore (L' := [some (pvR 11 0 129), some (pvI x1), some (pvI x2), some (pvI x3), some (pvI x4), some (pvI x5), some (pvI x6), some (pvI ((12 * x1) + j2)), some (pvI (σ 129 46)), some (pvI y7), some (pvI y8), some (pvI (σ9 137 y8)), some (pvL v23.1), none]) (pc' := 165) dX11_formula_163 rfl (Nat.le_of_ble_eq_true rfl) rfl ?_
            refine go_goto (t := 195) dX11_formula_165 rfl ?_
            cases h
            exact k15J
        · rw [if_neg (show ¬ ((σ9 137 y8) ≠ 1) from c30)] at h
          refine go_aload_n (pc' := 106) dX11_formula_105 rfl rfl (Nat.le_of_ble_eq_true rfl) ?_
          refine go_iload_n (pc' := 107) dX11_formula_106 rfl rfl ?_
          refine go_aload_n (pc' := 108) dX11_formula_107 rfl rfl (Nat.le_of_ble_eq_true rfl) ?_
          refine go_getR (k' := 12) (L0 := 370) (P' := 138) (pc' := 111) dX11_formula_108 rfl rf_11_36 rfl rfl (by omega) ?_
          refine go_iload (pc' := 113) dX11_formula_111 rfl rfl ?_
          obtain ⟨g26, h⟩ := gd h
          refine go_iald (pc' := 114) dX11_formula_113 rfl g26 ?_
          refine go_aload_n (pc' := 115) dX11_formula_114 rfl rfl (Nat.le_of_ble_eq_true rfl) ?_
          refine go_getR (k' := 12) (L0 := 370) (P' := 139) (pc' := 118) dX11_formula_115 rfl rf_11_39 rfl rfl (by omega) ?_
          refine go_iload (pc' := 120) dX11_formula_118 rfl rfl ?_
          obtain ⟨g27, h⟩ := gd h
          refine go_iald (pc' := 121) dX11_formula_120 rfl g27 ?_
          refine go_iload_n (pc' := 122) dX11_formula_121 rfl rfl ?_
          refine go_iload_n (pc' := 123) dX11_formula_122 rfl rfl ?_
          refine go_iload (pc' := 125) dX11_formula_123 rfl rfl ?_
          refine go_iload (pc' := 127) dX11_formula_125 rfl rfl ?_
          refine go_iload (pc' := 129) dX11_formula_127 rfl rfl ?_
          obtain ⟨v28, k29, h⟩ := bd h
          have k29 := (by have z := l_M_look V u hV (d + 0) n e (hset σ9 129 46 y7) x1 ((hset σ9 129 46 y7) 138 y8) ((hset σ9 129 46 y7) 139 y8) x2 x3 x4 x5 x6 _ k29; rwa [show d + 0 + u + 5 = d + u + 5 by omega] at z)
          refine go_call (kc := 211) (Mc := mt211) (v := some (pvL v28.1)) (w' := (true, n, e, v28.2)) (pc' := 132) (st' := [pvL v28.1]) [pvR 11 0 129, pvI x1, pvI ((hset σ9 129 46 y7) 138 y8), pvI ((hset σ9 129 46 y7) 139 y8), pvI x2, pvI x3, pvI x4, pvI x5, pvI x6] [] (Or.inl rfl) dX11_formula_129 rfl rm_11_303 mtE211 rfl rfl rfl (Nat.le_of_ble_eq_true rfl) (Or.inr ⟨_, _, 129, rfl, Or.inl rfl⟩) k29 rfl ?_
          refine go_lstore (L' := [some (pvR 11 0 129), some (pvI x1), some (pvI x2), some (pvI x3), some (pvI x4), some (pvI x5), some (pvI x6), some (pvI ((12 * x1) + j2)), some (pvI (σ 129 46)), some (pvI y7), some (pvI y8), some (pvI (σ9 137 y8)), some (pvL v28.1), none]) (pc' := 134) dX11_formula_132 rfl (Nat.le_of_ble_eq_true rfl) rfl ?_
          refine go_goto (t := 195) dX11_formula_134 rfl ?_
          cases h
          exact k15J
      · rw [if_neg (show ¬ ((σ9 137 y8) ≠ 0) from c35)] at h
        refine go_aload_n (pc' := 87) dX11_formula_86 rfl rfl (Nat.le_of_ble_eq_true rfl) ?_
        refine go_getR (k' := 12) (L0 := 370) (P' := 138) (pc' := 90) dX11_formula_87 rfl rf_11_36 rfl rfl (by omega) ?_
        refine go_iload (pc' := 92) dX11_formula_90 rfl rfl ?_
        obtain ⟨g31, h⟩ := gd h
        refine go_iald (pc' := 93) dX11_formula_92 rfl g31 ?_
        refine go_i2l (pc' := 94) dX11_formula_93 rfl ?_
        refine go_lstore (L' := [some (pvR 11 0 129), some (pvI x1), some (pvI x2), some (pvI x3), some (pvI x4), some (pvI x5), some (pvI x6), some (pvI ((12 * x1) + j2)), some (pvI (σ 129 46)), some (pvI y7), some (pvI y8), some (pvI (σ9 137 y8)), some (pvL ((hset σ9 129 46 y7) 138 y8)), none]) (pc' := 96) dX11_formula_94 rfl (Nat.le_of_ble_eq_true rfl) rfl ?_
        refine go_goto (t := 195) dX11_formula_96 rfl ?_
        cases h
        exact k15J

set_option maxRecDepth 10000 in
theorem l_M_formula (V : Hp → Int → Int → Int → Int → Int → Option (Int × Hp)) (u : Nat) (hV : ∀ (d n e : Nat) (σ : Hp) (x1 : Int) (x2 : Int) (x3 : Int) (x4 : Int) (x5 : Int) (r : Int × Hp), V σ x1 x2 x3 x4 x5 = some r → Ev (d + u) 209 [pvR 11 0 129, pvI x1, pvI x2, pvI x3, pvI x4, pvI x5] (true, n, e, σ) (0, some (pvL r.1), true, n, e, r.2)) (d : Nat) (n e : Nat) (σ : Hp) (x1 : Int) (x2 : Int) (x3 : Int) (x4 : Int) (x5 : Int) (x6 : Int) (r : Int × Hp) (h : f_M_formula V σ x1 x2 x3 x4 x5 x6 = some r) : Ev (d + u + 6) 210 [pvR 11 0 129, pvI x1, pvI x2, pvI x3, pvI x4, pvI x5, pvI x6] (true, n, e, σ) (0, some (pvL r.1), true, n, e, r.2) := by
  unfold f_M_formula at h
  refine Ev.of mtE210 rfl rfl rfl rfl ?_
  show Go none (Ev (d + u + 5)) mt210 0 [some (pvR 11 0 129), some (pvI x1), some (pvI x2), some (pvI x3), some (pvI x4), some (pvI x5), some (pvI x6), none, none, none, none, none, none, none] [] (true, n, e, σ) (0, some (pvL r.1), true, n, e, r.2)
  refine go_bipush (pc' := 2) dX11_formula_0 rfl (r32_c rfl) (by decide) ?_
  refine go_iload_n (pc' := 3) dX11_formula_2 rfl rfl ?_
  obtain ⟨g1, h⟩ := gd h
  refine go_imul (pc' := 4) dX11_formula_3 rfl g1 ?_
  refine go_iload_n (pc' := 5) dX11_formula_4 rfl rfl ?_
  obtain ⟨j2, k3, h⟩ := bd h
  have k3J : Go none (Ev (d + u + 5)) mt210 23 [some (pvR 11 0 129), some (pvI x1), some (pvI x2), some (pvI x3), some (pvI x4), some (pvI x5), some (pvI x6), none, none, none, none, none, none, none] [pvI j2, pvI (12 * x1)] (true, n, e, σ) (0, some (pvL r.1), true, n, e, r.2) := by
    obtain ⟨g5, h⟩ := gd h
    refine go_iadd (pc' := 24) dX11_formula_23 rfl g5 ?_
    refine go_istore (L' := [some (pvR 11 0 129), some (pvI x1), some (pvI x2), some (pvI x3), some (pvI x4), some (pvI x5), some (pvI x6), some (pvI ((12 * x1) + j2)), none, none, none, none, none, none]) (pc' := 26) dX11_formula_24 rfl (Nat.le_of_ble_eq_true rfl) rfl ?_
    refine go_aload_n (pc' := 27) dX11_formula_26 rfl rfl (Nat.le_of_ble_eq_true rfl) ?_
    refine go_getI (pc' := 30) dX11_formula_27 rfl rf_11_300 rfl ?_
    refine go_istore (L' := [some (pvR 11 0 129), some (pvI x1), some (pvI x2), some (pvI x3), some (pvI x4), some (pvI x5), some (pvI x6), some (pvI ((12 * x1) + j2)), some (pvI (σ 129 46)), none, none, none, none, none]) (pc' := 32) dX11_formula_30 rfl (Nat.le_of_ble_eq_true rfl) rfl ?_
    refine go_aload_n (pc' := 33) dX11_formula_32 rfl rfl (Nat.le_of_ble_eq_true rfl) ?_
    refine go_getI (pc' := 36) dX11_formula_33 rfl rf_11_300 rfl ?_
    refine go_istore (L' := [some (pvR 11 0 129), some (pvI x1), some (pvI x2), some (pvI x3), some (pvI x4), some (pvI x5), some (pvI x6), some (pvI ((12 * x1) + j2)), some (pvI (σ 129 46)), some (pvI (σ 129 46)), none, none, none, none]) (pc' := 38) dX11_formula_36 rfl (Nat.le_of_ble_eq_true rfl) rfl ?_
    refine go_bipush (pc' := 40) dX11_formula_38 rfl (r32_c rfl) (by decide) ?_
    refine go_iload (pc' := 42) dX11_formula_40 rfl rfl ?_
    obtain ⟨g6, h⟩ := gd h
    refine go_imul (pc' := 43) dX11_formula_42 rfl g6 ?_
    refine go_istore (L' := [some (pvR 11 0 129), some (pvI x1), some (pvI x2), some (pvI x3), some (pvI x4), some (pvI x5), some (pvI x6), some (pvI ((12 * x1) + j2)), some (pvI (σ 129 46)), some (pvI (σ 129 46)), some (pvI (10 * ((12 * x1) + j2))), none, none, none]) (pc' := 45) dX11_formula_43 rfl (Nat.le_of_ble_eq_true rfl) rfl ?_
    obtain ⟨j38, k39, h⟩ := bd h
    refine l_M_formula_45 V u hV d n e σ x1 x2 x3 x4 x5 x6 j2 zFuel (σ 129 46) (10 * ((12 * x1) + j2)) σ _ k39 ?_
    refine go_aload_n (pc' := 214) dX11_formula_213 rfl rfl (Nat.le_of_ble_eq_true rfl) ?_
    refine go_iload (pc' := 216) dX11_formula_214 rfl rfl ?_
    refine go_putI (pc' := 219) dX11_formula_216 rfl rf_11_300 rfl ?_
    refine go_aload_n (pc' := 220) dX11_formula_219 rfl rfl (Nat.le_of_ble_eq_true rfl) ?_
    refine go_getR (k' := 13) (L0 := 3700) (P' := 166) (pc' := 223) dX11_formula_220 rfl rf_11_128 rfl rfl (by omega) ?_
    refine go_iload (pc' := 225) dX11_formula_223 rfl rfl ?_
    obtain ⟨g40, h⟩ := gd h
    refine go_lald (pc' := 226) dX11_formula_225 rfl g40 ?_
    cases h
    exact go_lret dX11_formula_226 rfl rfl
  clear h
  have h := k3
  refine go_if_ne (t := 12) (pc' := 8) dX11_formula_5 rfl rfl (fun c41 => ?_) (fun c41 => ?_)
  · rw [if_pos (show x1 ≠ 0 from c41)] at h
    refine go_iload_n (pc' := 13) dX11_formula_12 rfl rfl ?_
    refine go_iconst (pc' := 14) dX11_formula_13 rfl (r32_c rfl) ?_
    refine go_icmp_ne (t := 21) (pc' := 17) dX11_formula_14 rfl rfl (fun c4 => ?_) (fun c4 => ?_)
    · rw [if_pos (show x1 ≠ 1 from c4)] at h
      refine go_iload (pc' := 23) dX11_formula_21 rfl rfl ?_
      cases h
      exact k3J
    · rw [if_neg (show ¬ (x1 ≠ 1) from c4)] at h
      refine go_iload_n (pc' := 18) dX11_formula_17 rfl rfl ?_
      refine go_goto (t := 23) dX11_formula_18 rfl ?_
      cases h
      exact k3J
  · rw [if_neg (show ¬ (x1 ≠ 0) from c41)] at h
    refine go_iload_n (pc' := 9) dX11_formula_8 rfl rfl ?_
    refine go_goto (t := 23) dX11_formula_9 rfl ?_
    cases h
    exact k3J

set_option maxRecDepth 10000 in
theorem l_M_isNothing (d : Nat) (n e : Nat) (σ : Hp) (x1 : Int) (x2 : Int) (x3 : Int) (x4 : Int) (r : Int) (h : f_M_isNothing σ x1 x2 x3 x4 = some r) : Ev (d + 4) 217 [pvR 11 0 129, pvI x1, pvI x2, pvI x3, pvI x4] (true, n, e, σ) (0, some (pvI r), true, n, e, σ) := by
  unfold f_M_isNothing at h
  refine Ev.of mtE217 rfl rfl rfl rfl ?_
  show Go none (Ev (d + 3)) mt217 0 [some (pvR 11 0 129), some (pvI x1), some (pvI x2), some (pvI x3), some (pvI x4), none, none] [] (true, n, e, σ) (0, some (pvI r), true, n, e, σ)
  refine go_aload_n (pc' := 1) dX11_isNothing_0 rfl rfl (Nat.le_of_ble_eq_true rfl) ?_
  refine go_iconst (pc' := 2) dX11_isNothing_1 rfl (r32_c rfl) ?_
  refine go_iload_n (pc' := 3) dX11_isNothing_2 rfl rfl ?_
  obtain ⟨v1, k2, h⟩ := bd h
  have k2 := l_M_isPlain (d + 2) n e σ 0 x1 _ k2
  refine go_call (kc := 173) (Mc := mt173) (v := some (pvI v1)) (w' := (true, n, e, σ)) (pc' := 6) (st' := [pvI v1]) [pvR 11 0 129, pvI 0, pvI x1] [] (Or.inl rfl) dX11_isNothing_3 rfl rm_11_180 mtE173 rfl rfl rfl (Nat.le_of_ble_eq_true rfl) (Or.inr ⟨_, _, 129, rfl, Or.inl rfl⟩) k2 rfl ?_
  obtain ⟨j3, k4, h⟩ := bd h
  have k4J : Go none (Ev (d + 3)) mt217 32 [some (pvR 11 0 129), some (pvI x1), some (pvI x2), some (pvI x3), some (pvI x4), none, none] [pvI j3] (true, n, e, σ) (0, some (pvI r), true, n, e, σ) := by
    refine go_istore (L' := [some (pvR 11 0 129), some (pvI x1), some (pvI x2), some (pvI x3), some (pvI x4), some (pvI j3), none]) (pc' := 34) dX11_isNothing_32 rfl (Nat.le_of_ble_eq_true rfl) rfl ?_
    refine go_aload_n (pc' := 35) dX11_isNothing_34 rfl rfl (Nat.le_of_ble_eq_true rfl) ?_
    refine go_iconst (pc' := 36) dX11_isNothing_35 rfl (r32_c rfl) ?_
    refine go_iload_n (pc' := 37) dX11_isNothing_36 rfl rfl ?_
    obtain ⟨v10, k11, h⟩ := bd h
    have k11 := l_M_isPlain (d + 2) n e σ 1 x2 _ k11
    refine go_call (kc := 173) (Mc := mt173) (v := some (pvI v10)) (w' := (true, n, e, σ)) (pc' := 40) (st' := [pvI v10]) [pvR 11 0 129, pvI 1, pvI x2] [] (Or.inl rfl) dX11_isNothing_37 rfl rm_11_180 mtE173 rfl rfl rfl (Nat.le_of_ble_eq_true rfl) (Or.inr ⟨_, _, 129, rfl, Or.inl rfl⟩) k11 rfl ?_
    obtain ⟨j12, k13, h⟩ := bd h
    have k13J : Go none (Ev (d + 3)) mt217 68 [some (pvR 11 0 129), some (pvI x1), some (pvI x2), some (pvI x3), some (pvI x4), some (pvI j3), none] [pvI j12] (true, n, e, σ) (0, some (pvI r), true, n, e, σ) := by
      refine go_istore (L' := [some (pvR 11 0 129), some (pvI x1), some (pvI x2), some (pvI x3), some (pvI x4), some (pvI j3), some (pvI j12)]) (pc' := 70) dX11_isNothing_68 rfl (Nat.le_of_ble_eq_true rfl) rfl ?_
      refine go_iload (pc' := 72) dX11_isNothing_70 rfl rfl ?_
      obtain ⟨j20, k21, h⟩ := bd h
      have k21J : Go none (Ev (d + 3)) mt217 114 [some (pvR 11 0 129), some (pvI x1), some (pvI x2), some (pvI x3), some (pvI x4), some (pvI j3), some (pvI j12)] [pvI j20] (true, n, e, σ) (0, some (pvI r), true, n, e, σ) := by
        obtain ⟨g32, h⟩ := gd h
        cases h
        exact go_zret dX11_isNothing_114 rfl g32 rfl
      clear h
      have h := k21
      refine go_if_ne (t := 109) (pc' := 75) dX11_isNothing_72 rfl rfl (fun c33 => ?_) (fun c33 => ?_)
      · rw [if_pos (show j3 ≠ 0 from c33)] at h
        refine go_iconst (pc' := 110) dX11_isNothing_109 rfl (r32_c rfl) ?_
        refine go_goto (t := 114) dX11_isNothing_110 rfl ?_
        cases h
        exact k21J
      · rw [if_neg (show ¬ (j3 ≠ 0) from c33)] at h
        refine go_iload (pc' := 77) dX11_isNothing_75 rfl rfl ?_
        refine go_if_ne (t := 109) (pc' := 80) dX11_isNothing_77 rfl rfl (fun c31 => ?_) (fun c31 => ?_)
        · rw [if_pos (show j12 ≠ 0 from c31)] at h
          refine go_iconst (pc' := 110) dX11_isNothing_109 rfl (r32_c rfl) ?_
          refine go_goto (t := 114) dX11_isNothing_110 rfl ?_
          cases h
          exact k21J
        · rw [if_neg (show ¬ (j12 ≠ 0) from c31)] at h
          refine go_aload_n (pc' := 81) dX11_isNothing_80 rfl rfl (Nat.le_of_ble_eq_true rfl) ?_
          refine go_iconst (pc' := 82) dX11_isNothing_81 rfl (r32_c rfl) ?_
          refine go_iload_n (pc' := 83) dX11_isNothing_82 rfl rfl ?_
          obtain ⟨v22, k23, h⟩ := bd h
          have k23 := l_M_isPlain (d + 2) n e σ 2 x3 _ k23
          refine go_call (kc := 173) (Mc := mt173) (v := some (pvI v22)) (w' := (true, n, e, σ)) (pc' := 86) (st' := [pvI v22]) [pvR 11 0 129, pvI 2, pvI x3] [] (Or.inl rfl) dX11_isNothing_83 rfl rm_11_180 mtE173 rfl rfl rfl (Nat.le_of_ble_eq_true rfl) (Or.inr ⟨_, _, 129, rfl, Or.inl rfl⟩) k23 rfl ?_
          refine go_if_eq (t := 113) (pc' := 89) dX11_isNothing_86 rfl rfl (fun c30 => ?_) (fun c30 => ?_)
          · rw [if_pos (show v22 = 0 from c30)] at h
            refine go_iconst (pc' := 114) dX11_isNothing_113 rfl (r32_c rfl) ?_
            cases h
            exact k21J
          · rw [if_neg (show ¬ (v22 = 0) from c30)] at h
            refine go_aload_n (pc' := 90) dX11_isNothing_89 rfl rfl (Nat.le_of_ble_eq_true rfl) ?_
            refine go_iconst (pc' := 91) dX11_isNothing_90 rfl (r32_c rfl) ?_
            refine go_iload_n (pc' := 92) dX11_isNothing_91 rfl rfl ?_
            obtain ⟨v24, k25, h⟩ := bd h
            have k25 := l_M_depth (d + 0) n e σ 2 x3 _ k25
            refine go_call (kc := 185) (Mc := mt185) (v := some (pvI v24)) (w' := (true, n, e, σ)) (pc' := 95) (st' := [pvI v24]) [pvR 11 0 129, pvI 2, pvI x3] [] (Or.inl rfl) dX11_isNothing_92 rfl rm_11_205 mtE185 rfl rfl rfl (Nat.le_of_ble_eq_true rfl) (Or.inr ⟨_, _, 129, rfl, Or.inl rfl⟩) k25 rfl ?_
            refine go_aload_n (pc' := 96) dX11_isNothing_95 rfl rfl (Nat.le_of_ble_eq_true rfl) ?_
            refine go_getR (k' := 12) (L0 := 12) (P' := 149) (pc' := 99) dX11_isNothing_96 rfl rf_11_69 rfl rfl (by omega) ?_
            refine go_iconst (pc' := 100) dX11_isNothing_99 rfl (r32_c rfl) ?_
            refine go_iload (pc' := 102) dX11_isNothing_100 rfl rfl ?_
            obtain ⟨g26, h⟩ := gd h
            refine go_imul (pc' := 103) dX11_isNothing_102 rfl g26 ?_
            refine go_iconst (pc' := 104) dX11_isNothing_103 rfl (r32_c rfl) ?_
            obtain ⟨g27, h⟩ := gd h
            refine go_iadd (pc' := 105) dX11_isNothing_104 rfl g27 ?_
            obtain ⟨g28, h⟩ := gd h
            refine go_iald (pc' := 106) dX11_isNothing_105 rfl g28 ?_
            refine go_icmp_ge (t := 113) (pc' := 109) dX11_isNothing_106 rfl rfl (fun c29 => ?_) (fun c29 => ?_)
            · rw [if_pos (show (σ 149 ((3 * x4) + 2)) ≤ v24 from c29)] at h
              refine go_iconst (pc' := 114) dX11_isNothing_113 rfl (r32_c rfl) ?_
              cases h
              exact k21J
            · rw [if_neg (show ¬ ((σ 149 ((3 * x4) + 2)) ≤ v24) from c29)] at h
              refine go_iconst (pc' := 110) dX11_isNothing_109 rfl (r32_c rfl) ?_
              refine go_goto (t := 114) dX11_isNothing_110 rfl ?_
              cases h
              exact k21J
    clear h
    have h := k13
    refine go_if_eq (t := 67) (pc' := 43) dX11_isNothing_40 rfl rfl (fun c34 => ?_) (fun c34 => ?_)
    · rw [if_pos (show v10 = 0 from c34)] at h
      refine go_iconst (pc' := 68) dX11_isNothing_67 rfl (r32_c rfl) ?_
      cases h
      exact k13J
    · rw [if_neg (show ¬ (v10 = 0) from c34)] at h
      refine go_aload_n (pc' := 44) dX11_isNothing_43 rfl rfl (Nat.le_of_ble_eq_true rfl) ?_
      refine go_iconst (pc' := 45) dX11_isNothing_44 rfl (r32_c rfl) ?_
      refine go_iload_n (pc' := 46) dX11_isNothing_45 rfl rfl ?_
      obtain ⟨v14, k15, h⟩ := bd h
      have k15 := l_M_depth (d + 0) n e σ 1 x2 _ k15
      refine go_call (kc := 185) (Mc := mt185) (v := some (pvI v14)) (w' := (true, n, e, σ)) (pc' := 49) (st' := [pvI v14]) [pvR 11 0 129, pvI 1, pvI x2] [] (Or.inl rfl) dX11_isNothing_46 rfl rm_11_205 mtE185 rfl rfl rfl (Nat.le_of_ble_eq_true rfl) (Or.inr ⟨_, _, 129, rfl, Or.inl rfl⟩) k15 rfl ?_
      refine go_aload_n (pc' := 50) dX11_isNothing_49 rfl rfl (Nat.le_of_ble_eq_true rfl) ?_
      refine go_getR (k' := 12) (L0 := 12) (P' := 149) (pc' := 53) dX11_isNothing_50 rfl rf_11_69 rfl rfl (by omega) ?_
      refine go_iconst (pc' := 54) dX11_isNothing_53 rfl (r32_c rfl) ?_
      refine go_iload (pc' := 56) dX11_isNothing_54 rfl rfl ?_
      obtain ⟨g16, h⟩ := gd h
      refine go_imul (pc' := 57) dX11_isNothing_56 rfl g16 ?_
      refine go_iconst (pc' := 58) dX11_isNothing_57 rfl (r32_c rfl) ?_
      obtain ⟨g17, h⟩ := gd h
      refine go_iadd (pc' := 59) dX11_isNothing_58 rfl g17 ?_
      obtain ⟨g18, h⟩ := gd h
      refine go_iald (pc' := 60) dX11_isNothing_59 rfl g18 ?_
      refine go_icmp_ge (t := 67) (pc' := 63) dX11_isNothing_60 rfl rfl (fun c19 => ?_) (fun c19 => ?_)
      · rw [if_pos (show (σ 149 ((3 * x4) + 1)) ≤ v14 from c19)] at h
        refine go_iconst (pc' := 68) dX11_isNothing_67 rfl (r32_c rfl) ?_
        cases h
        exact k13J
      · rw [if_neg (show ¬ ((σ 149 ((3 * x4) + 1)) ≤ v14) from c19)] at h
        refine go_iconst (pc' := 64) dX11_isNothing_63 rfl (r32_c rfl) ?_
        refine go_goto (t := 68) dX11_isNothing_64 rfl ?_
        cases h
        exact k13J
  clear h
  have h := k4
  refine go_if_eq (t := 31) (pc' := 9) dX11_isNothing_6 rfl rfl (fun c35 => ?_) (fun c35 => ?_)
  · rw [if_pos (show v1 = 0 from c35)] at h
    refine go_iconst (pc' := 32) dX11_isNothing_31 rfl (r32_c rfl) ?_
    cases h
    exact k4J
  · rw [if_neg (show ¬ (v1 = 0) from c35)] at h
    refine go_aload_n (pc' := 10) dX11_isNothing_9 rfl rfl (Nat.le_of_ble_eq_true rfl) ?_
    refine go_iconst (pc' := 11) dX11_isNothing_10 rfl (r32_c rfl) ?_
    refine go_iload_n (pc' := 12) dX11_isNothing_11 rfl rfl ?_
    obtain ⟨v5, k6, h⟩ := bd h
    have k6 := l_M_depth (d + 0) n e σ 0 x1 _ k6
    refine go_call (kc := 185) (Mc := mt185) (v := some (pvI v5)) (w' := (true, n, e, σ)) (pc' := 15) (st' := [pvI v5]) [pvR 11 0 129, pvI 0, pvI x1] [] (Or.inl rfl) dX11_isNothing_12 rfl rm_11_205 mtE185 rfl rfl rfl (Nat.le_of_ble_eq_true rfl) (Or.inr ⟨_, _, 129, rfl, Or.inl rfl⟩) k6 rfl ?_
    refine go_aload_n (pc' := 16) dX11_isNothing_15 rfl rfl (Nat.le_of_ble_eq_true rfl) ?_
    refine go_getR (k' := 12) (L0 := 12) (P' := 149) (pc' := 19) dX11_isNothing_16 rfl rf_11_69 rfl rfl (by omega) ?_
    refine go_iconst (pc' := 20) dX11_isNothing_19 rfl (r32_c rfl) ?_
    refine go_iload (pc' := 22) dX11_isNothing_20 rfl rfl ?_
    obtain ⟨g7, h⟩ := gd h
    refine go_imul (pc' := 23) dX11_isNothing_22 rfl g7 ?_
    obtain ⟨g8, h⟩ := gd h
    refine go_iald (pc' := 24) dX11_isNothing_23 rfl g8 ?_
    refine go_icmp_ge (t := 31) (pc' := 27) dX11_isNothing_24 rfl rfl (fun c9 => ?_) (fun c9 => ?_)
    · rw [if_pos (show (σ 149 (3 * x4)) ≤ v5 from c9)] at h
      refine go_iconst (pc' := 32) dX11_isNothing_31 rfl (r32_c rfl) ?_
      cases h
      exact k4J
    · rw [if_neg (show ¬ ((σ 149 (3 * x4)) ≤ v5) from c9)] at h
      refine go_iconst (pc' := 28) dX11_isNothing_27 rfl (r32_c rfl) ?_
      refine go_goto (t := 32) dX11_isNothing_28 rfl ?_
      cases h
      exact k4J

set_option maxRecDepth 10000 in
theorem l_M_plain_153 (d : Nat) (n : Nat) (e : Nat) (σ : Hp) (x1 : Int) (x2 : Int) (x3 : Int) (x4 : Int) (j6 : Int) (y3 : Int) (y4 : Int) (j15 : Int) (j19 : Int) (j27 : Int) {out : Out} : ∀ (F : Nat) (y29 : Int) (y30 : Int) (j43 : Int × Int), f_M_plain_153 σ x1 x2 x3 x4 y4 F y29 y30 = some j43 → Go none (Ev (d + 4)) mt218 217 [some (pvR 11 0 129), some (pvI x1), some (pvI x2), some (pvI x3), some (pvI x4), some (pvI j27), some (pvL (j15 + j19)), none, some (pvI y3), some (pvI y4), some (pvI j6), some (pvI (σ 145 (σ 150 y4))), some (pvI j43.1), some (pvI j43.2)] [] (true, n, e, σ) out → Go none (Ev (d + 4)) mt218 153 [some (pvR 11 0 129), some (pvI x1), some (pvI x2), some (pvI x3), some (pvI x4), some (pvI j27), some (pvL (j15 + j19)), none, some (pvI y3), some (pvI y4), some (pvI j6), some (pvI (σ 145 (σ 150 y4))), some (pvI y29), some (pvI y30)] [] (true, n, e, σ) out := by
  intro F
  induction F with
  | zero =>
    intro _ _ _ h
    intro _
    rw [f_M_plain_153] at h
    cases h
  | succ F ih =>
    intro y29 y30 j43 h hx
    rw [f_M_plain_153] at h
    refine go_iload (pc' := 155) dX11_plain_153 rfl rfl ?_
    refine go_iload (pc' := 157) dX11_plain_155 rfl rfl ?_
    refine go_icmp_ge (t := 217) (pc' := 160) dX11_plain_157 rfl rfl (fun c42 => ?_) (fun c42 => ?_)
    · rw [if_pos (show y4 ≤ y30 from c42)] at h
      cases h
      exact hx
    · rw [if_neg (show ¬ (y4 ≤ y30) from c42)] at h
      refine go_iload (pc' := 162) dX11_plain_160 rfl rfl ?_
      refine go_aload_n (pc' := 163) dX11_plain_162 rfl rfl (Nat.le_of_ble_eq_true rfl) ?_
      refine go_getR (k' := 12) (L0 := 51) (P' := 153) (pc' := 166) dX11_plain_163 rfl rf_11_81 rfl rfl (by omega) ?_
      refine go_iload (pc' := 168) dX11_plain_166 rfl rfl ?_
      obtain ⟨g31, h⟩ := gd h
      refine go_iald (pc' := 169) dX11_plain_168 rfl g31 ?_
      refine go_iload (pc' := 171) dX11_plain_169 rfl rfl ?_
      obtain ⟨j32, k33, h⟩ := bd h
      have k33J : Go none (Ev (d + 4)) mt218 208 [some (pvR 11 0 129), some (pvI x1), some (pvI x2), some (pvI x3), some (pvI x4), some (pvI j27), some (pvL (j15 + j19)), none, some (pvI y3), some (pvI y4), some (pvI j6), some (pvI (σ 145 (σ 150 y4))), some (pvI y29), some (pvI y30)] [pvI j32, pvI y29] (true, n, e, σ) out := by
        refine go_iand (pc' := 209) dX11_plain_208 rfl ?_
        refine go_istore (L' := [some (pvR 11 0 129), some (pvI x1), some (pvI x2), some (pvI x3), some (pvI x4), some (pvI j27), some (pvL (j15 + j19)), none, some (pvI y3), some (pvI y4), some (pvI j6), some (pvI (σ 145 (σ 150 y4))), some (pvI (iand y29 j32)), some (pvI y30)]) (pc' := 211) dX11_plain_209 rfl (Nat.le_of_ble_eq_true rfl) rfl ?_
        obtain ⟨g40, h⟩ := gd h
        refine go_iinc (L' := [some (pvR 11 0 129), some (pvI x1), some (pvI x2), some (pvI x3), some (pvI x4), some (pvI j27), some (pvL (j15 + j19)), none, some (pvI y3), some (pvI y4), some (pvI j6), some (pvI (σ 145 (σ 150 y4))), some (pvI (iand y29 j32)), some (pvI (y30 + 1))]) (pc' := 214) dX11_plain_211 rfl rfl g40 rfl ?_
        refine go_goto (t := 153) dX11_plain_214 rfl ?_
        exact ih (iand y29 j32) (y30 + 1) _ h hx
      clear h
      have h := k33
      refine go_icmp_ne (t := 203) (pc' := 174) dX11_plain_171 rfl rfl (fun c41 => ?_) (fun c41 => ?_)
      · rw [if_pos (show (σ 153 y30) ≠ x4 from c41)] at h
        refine go_iconst (pc' := 204) dX11_plain_203 rfl (r32_c rfl) ?_
        refine go_goto (t := 208) dX11_plain_204 rfl ?_
        cases h
        exact k33J
      · rw [if_neg (show ¬ ((σ 153 y30) ≠ x4) from c41)] at h
        refine go_aload_n (pc' := 175) dX11_plain_174 rfl rfl (Nat.le_of_ble_eq_true rfl) ?_
        refine go_getR (k' := 12) (L0 := 51) (P' := 154) (pc' := 178) dX11_plain_175 rfl rf_11_84 rfl rfl (by omega) ?_
        refine go_iload (pc' := 180) dX11_plain_178 rfl rfl ?_
        obtain ⟨g34, h⟩ := gd h
        refine go_iald (pc' := 181) dX11_plain_180 rfl g34 ?_
        refine go_aload_n (pc' := 182) dX11_plain_181 rfl rfl (Nat.le_of_ble_eq_true rfl) ?_
        refine go_getR (k' := 12) (L0 := 51) (P' := 154) (pc' := 185) dX11_plain_182 rfl rf_11_84 rfl rfl (by omega) ?_
        refine go_iload (pc' := 187) dX11_plain_185 rfl rfl ?_
        obtain ⟨g35, h⟩ := gd h
        refine go_iald (pc' := 188) dX11_plain_187 rfl g35 ?_
        refine go_icmp_ne (t := 203) (pc' := 191) dX11_plain_188 rfl rfl (fun c39 => ?_) (fun c39 => ?_)
        · rw [if_pos (show (σ 154 y30) ≠ (σ 154 y4) from c39)] at h
          refine go_iconst (pc' := 204) dX11_plain_203 rfl (r32_c rfl) ?_
          refine go_goto (t := 208) dX11_plain_204 rfl ?_
          cases h
          exact k33J
        · rw [if_neg (show ¬ ((σ 154 y30) ≠ (σ 154 y4)) from c39)] at h
          refine go_aload_n (pc' := 192) dX11_plain_191 rfl rfl (Nat.le_of_ble_eq_true rfl) ?_
          refine go_iload (pc' := 194) dX11_plain_192 rfl rfl ?_
          refine go_iload_n (pc' := 195) dX11_plain_194 rfl rfl ?_
          refine go_iload_n (pc' := 196) dX11_plain_195 rfl rfl ?_
          refine go_iload_n (pc' := 197) dX11_plain_196 rfl rfl ?_
          obtain ⟨v36, k37, h⟩ := bd h
          have k37 := l_M_counts (d + 0) n e σ y30 x1 x2 x3 _ k37
          refine go_call (kc := 202) (Mc := mt202) (v := some (pvI v36)) (w' := (true, n, e, σ)) (pc' := 200) (st' := [pvI v36, pvI y29]) [pvR 11 0 129, pvI y30, pvI x1, pvI x2, pvI x3] [pvI y29] (Or.inl rfl) dX11_plain_197 rfl rm_11_259 mtE202 rfl rfl rfl (Nat.le_of_ble_eq_true rfl) (Or.inr ⟨_, _, 129, rfl, Or.inl rfl⟩) k37 rfl ?_
          refine go_if_ne (t := 207) (pc' := 203) dX11_plain_200 rfl rfl (fun c38 => ?_) (fun c38 => ?_)
          · rw [if_pos (show v36 ≠ 0 from c38)] at h
            refine go_iconst (pc' := 208) dX11_plain_207 rfl (r32_c rfl) ?_
            cases h
            exact k33J
          · rw [if_neg (show ¬ (v36 ≠ 0) from c38)] at h
            refine go_iconst (pc' := 204) dX11_plain_203 rfl (r32_c rfl) ?_
            refine go_goto (t := 208) dX11_plain_204 rfl ?_
            cases h
            exact k33J

set_option maxRecDepth 10000 in
theorem l_M_plain_12 (d : Nat) (n : Nat) (e : Nat) (σ : Hp) (x1 : Int) (x2 : Int) (x3 : Int) (x4 : Int) {out : Out} : ∀ (F : Nat) (y1 : Int) (y2 : Int) (y3 : Int) (y4 : Int) (j57 : Int × Int × Int × Int), f_M_plain_12 σ x1 x2 x3 x4 F y1 y2 y3 y4 = some j57 → Go none (Ev (d + 4)) mt218 238 [some (pvR 11 0 129), some (pvI x1), some (pvI x2), some (pvI x3), some (pvI x4), some (pvI j57.1), some (pvL j57.2.1), none, some (pvI j57.2.2.1), some (pvI j57.2.2.2), none, none, none, none] [] (true, n, e, σ) out → Go none (Ev (d + 4)) mt218 12 [some (pvR 11 0 129), some (pvI x1), some (pvI x2), some (pvI x3), some (pvI x4), some (pvI y1), some (pvL y2), none, some (pvI y3), some (pvI y4), none, none, none, none] [] (true, n, e, σ) out := by
  intro F
  induction F with
  | zero =>
    intro _ _ _ _ _ h
    intro _
    rw [f_M_plain_12] at h
    cases h
  | succ F ih =>
    intro y1 y2 y3 y4 j57 h hx
    rw [f_M_plain_12] at h
    refine go_iload (pc' := 14) dX11_plain_12 rfl rfl ?_
    refine go_aload_n (pc' := 15) dX11_plain_14 rfl rfl (Nat.le_of_ble_eq_true rfl) ?_
    refine go_getI (pc' := 18) dX11_plain_15 rfl rf_11_230 rfl ?_
    refine go_icmp_ge (t := 238) (pc' := 21) dX11_plain_18 rfl rfl (fun c56 => ?_) (fun c56 => ?_)
    · rw [if_pos (show (σ 129 29) ≤ y4 from c56)] at h
      cases h
      exact hx
    · rw [if_neg (show ¬ ((σ 129 29) ≤ y4) from c56)] at h
      refine go_aload_n (pc' := 22) dX11_plain_21 rfl rfl (Nat.le_of_ble_eq_true rfl) ?_
      refine go_getR (k' := 12) (L0 := 51) (P' := 153) (pc' := 25) dX11_plain_22 rfl rf_11_81 rfl rfl (by omega) ?_
      refine go_iload (pc' := 27) dX11_plain_25 rfl rfl ?_
      obtain ⟨g5, h⟩ := gd h
      refine go_iald (pc' := 28) dX11_plain_27 rfl g5 ?_
      refine go_iload (pc' := 30) dX11_plain_28 rfl rfl ?_
      obtain ⟨j6, k7, h⟩ := bd h
      have k7J : Go none (Ev (d + 4)) mt218 46 [some (pvR 11 0 129), some (pvI x1), some (pvI x2), some (pvI x3), some (pvI x4), some (pvI y1), some (pvL y2), none, some (pvI y3), some (pvI y4), none, none, none, none] [pvI j6] (true, n, e, σ) out := by
        refine go_istore (L' := [some (pvR 11 0 129), some (pvI x1), some (pvI x2), some (pvI x3), some (pvI x4), some (pvI y1), some (pvL y2), none, some (pvI y3), some (pvI y4), some (pvI j6), none, none, none]) (pc' := 48) dX11_plain_46 rfl (Nat.le_of_ble_eq_true rfl) rfl ?_
        refine go_iload (pc' := 50) dX11_plain_48 rfl rfl ?_
        obtain ⟨j10, k11, h⟩ := bd h
        have k11J : Go none (Ev (d + 4)) mt218 232 [some (pvR 11 0 129), some (pvI x1), some (pvI x2), some (pvI x3), some (pvI x4), some (pvI j10.1), some (pvL j10.2.1), none, some (pvI j10.2.2), some (pvI y4), some (pvI j6), none, none, none] [] (true, n, e, σ) out := by
          obtain ⟨g53, h⟩ := gd h
          refine go_iinc (L' := [some (pvR 11 0 129), some (pvI x1), some (pvI x2), some (pvI x3), some (pvI x4), some (pvI j10.1), some (pvL j10.2.1), none, some (pvI j10.2.2), some (pvI (y4 + 1)), some (pvI j6), none, none, none]) (pc' := 235) dX11_plain_232 rfl rfl g53 rfl ?_
          refine go_goto (t := 12) dX11_plain_235 rfl ?_
          exact go_sub (ih j10.1 j10.2.1 j10.2.2 (y4 + 1) _ h hx) ⟨Or.inr rfl, Or.inr rfl, Or.inr rfl, Or.inr rfl, Or.inr rfl, Or.inr rfl, Or.inr rfl, Or.inr rfl, Or.inr rfl, Or.inr rfl, Or.inl rfl, Or.inr rfl, Or.inr rfl, Or.inr rfl, trivial⟩
        clear h
        have h := k11
        refine go_if_eq (t := 232) (pc' := 53) dX11_plain_50 rfl rfl (fun c54 => ?_) (fun c54 => ?_)
        · rw [if_pos (show j6 = 0 from c54)] at h
          cases h
          exact k11J
        · rw [if_neg (show ¬ (j6 = 0) from c54)] at h
          refine go_aload_n (pc' := 54) dX11_plain_53 rfl rfl (Nat.le_of_ble_eq_true rfl) ?_
          refine go_getR (k' := 12) (L0 := 12) (P' := 145) (pc' := 57) dX11_plain_54 rfl rf_11_57 rfl rfl (by omega) ?_
          refine go_aload_n (pc' := 58) dX11_plain_57 rfl rfl (Nat.le_of_ble_eq_true rfl) ?_
          refine go_getR (k' := 12) (L0 := 51) (P' := 150) (pc' := 61) dX11_plain_58 rfl rf_11_72 rfl rfl (by omega) ?_
          refine go_iload (pc' := 63) dX11_plain_61 rfl rfl ?_
          obtain ⟨g12, h⟩ := gd h
          refine go_iald (pc' := 64) dX11_plain_63 rfl g12 ?_
          obtain ⟨g13, h⟩ := gd h
          refine go_iald (pc' := 65) dX11_plain_64 rfl g13 ?_
          refine go_istore (L' := [some (pvR 11 0 129), some (pvI x1), some (pvI x2), some (pvI x3), some (pvI x4), some (pvI y1), some (pvL y2), none, some (pvI y3), some (pvI y4), some (pvI j6), some (pvI (σ 145 (σ 150 y4))), none, none]) (pc' := 67) dX11_plain_65 rfl (Nat.le_of_ble_eq_true rfl) rfl ?_
          refine go_aload_n (pc' := 68) dX11_plain_67 rfl rfl (Nat.le_of_ble_eq_true rfl) ?_
          refine go_getR (k' := 12) (L0 := 4) (P' := 146) (pc' := 71) dX11_plain_68 rfl rf_11_60 rfl rfl (by omega) ?_
          refine go_iload (pc' := 73) dX11_plain_71 rfl rfl ?_
          obtain ⟨g14, h⟩ := gd h
          refine go_iald (pc' := 74) dX11_plain_73 rfl g14 ?_
          refine go_iconst (pc' := 75) dX11_plain_74 rfl (r32_c rfl) ?_
          obtain ⟨j15, k16, h⟩ := bd h
          have k16J : Go none (Ev (d + 4)) mt218 91 [some (pvR 11 0 129), some (pvI x1), some (pvI x2), some (pvI x3), some (pvI x4), some (pvI y1), some (pvL y2), none, some (pvI y3), some (pvI y4), some (pvI j6), some (pvI (σ 145 (σ 150 y4))), none, none] [pvL j15] (true, n, e, σ) out := by
            refine go_lstore (L' := [some (pvR 11 0 129), some (pvI x1), some (pvI x2), some (pvI x3), some (pvI x4), some (pvI y1), some (pvL j15), none, some (pvI y3), some (pvI y4), some (pvI j6), some (pvI (σ 145 (σ 150 y4))), none, none]) (pc' := 93) dX11_plain_91 rfl (Nat.le_of_ble_eq_true rfl) rfl ?_
            refine go_lload (pc' := 95) dX11_plain_93 rfl rfl ?_
            refine go_aload_n (pc' := 96) dX11_plain_95 rfl rfl (Nat.le_of_ble_eq_true rfl) ?_
            refine go_getR (k' := 12) (L0 := 4) (P' := 146) (pc' := 99) dX11_plain_96 rfl rf_11_60 rfl rfl (by omega) ?_
            refine go_iload (pc' := 101) dX11_plain_99 rfl rfl ?_
            obtain ⟨g18, h⟩ := gd h
            refine go_iald (pc' := 102) dX11_plain_101 rfl g18 ?_
            refine go_iconst (pc' := 103) dX11_plain_102 rfl (r32_c rfl) ?_
            obtain ⟨j19, k20, h⟩ := bd h
            have k20J : Go none (Ev (d + 4)) mt218 128 [some (pvR 11 0 129), some (pvI x1), some (pvI x2), some (pvI x3), some (pvI x4), some (pvI y1), some (pvL j15), none, some (pvI y3), some (pvI y4), some (pvI j6), some (pvI (σ 145 (σ 150 y4))), none, none] [pvL j19, pvL j15] (true, n, e, σ) out := by
              obtain ⟨g26, h⟩ := gd h
              refine go_ladd (pc' := 129) dX11_plain_128 rfl g26 ?_
              refine go_lstore (L' := [some (pvR 11 0 129), some (pvI x1), some (pvI x2), some (pvI x3), some (pvI x4), some (pvI y1), some (pvL (j15 + j19)), none, some (pvI y3), some (pvI y4), some (pvI j6), some (pvI (σ 145 (σ 150 y4))), none, none]) (pc' := 131) dX11_plain_129 rfl (Nat.le_of_ble_eq_true rfl) rfl ?_
              refine go_iload (pc' := 133) dX11_plain_131 rfl rfl ?_
              refine go_iload (pc' := 135) dX11_plain_133 rfl rfl ?_
              obtain ⟨j27, k28, h⟩ := bd h
              have k28J : Go none (Ev (d + 4)) mt218 145 [some (pvR 11 0 129), some (pvI x1), some (pvI x2), some (pvI x3), some (pvI x4), some (pvI y1), some (pvL (j15 + j19)), none, some (pvI y3), some (pvI y4), some (pvI j6), some (pvI (σ 145 (σ 150 y4))), none, none] [pvI j27] (true, n, e, σ) out := by
                refine go_istore (L' := [some (pvR 11 0 129), some (pvI x1), some (pvI x2), some (pvI x3), some (pvI x4), some (pvI j27), some (pvL (j15 + j19)), none, some (pvI y3), some (pvI y4), some (pvI j6), some (pvI (σ 145 (σ 150 y4))), none, none]) (pc' := 147) dX11_plain_145 rfl (Nat.le_of_ble_eq_true rfl) rfl ?_
                refine go_iconst (pc' := 148) dX11_plain_147 rfl (r32_c rfl) ?_
                refine go_istore (L' := [some (pvR 11 0 129), some (pvI x1), some (pvI x2), some (pvI x3), some (pvI x4), some (pvI j27), some (pvL (j15 + j19)), none, some (pvI y3), some (pvI y4), some (pvI j6), some (pvI (σ 145 (σ 150 y4))), some (pvI 1), none]) (pc' := 150) dX11_plain_148 rfl (Nat.le_of_ble_eq_true rfl) rfl ?_
                refine go_iconst (pc' := 151) dX11_plain_150 rfl (r32_c rfl) ?_
                refine go_istore (L' := [some (pvR 11 0 129), some (pvI x1), some (pvI x2), some (pvI x3), some (pvI x4), some (pvI j27), some (pvL (j15 + j19)), none, some (pvI y3), some (pvI y4), some (pvI j6), some (pvI (σ 145 (σ 150 y4))), some (pvI 1), some (pvI 0)]) (pc' := 153) dX11_plain_151 rfl (Nat.le_of_ble_eq_true rfl) rfl ?_
                obtain ⟨j44, k45, h⟩ := bd h
                refine l_M_plain_153 d n e σ x1 x2 x3 x4 j6 y3 y4 j15 j19 j27 zFuel 1 0 _ k45 ?_
                refine go_iload (pc' := 219) dX11_plain_217 rfl rfl ?_
                refine go_iload (pc' := 221) dX11_plain_219 rfl rfl ?_
                obtain ⟨j46, k47, h⟩ := bd h
                have k47J : Go none (Ev (d + 4)) mt218 229 [some (pvR 11 0 129), some (pvI x1), some (pvI x2), some (pvI x3), some (pvI x4), some (pvI j27), some (pvL (j15 + j19)), none, some (pvI y3), some (pvI y4), some (pvI j6), some (pvI (σ 145 (σ 150 y4))), some (pvI j44.1), some (pvI j44.2)] [pvI j46, pvI y3] (true, n, e, σ) out := by
                  obtain ⟨g48, h⟩ := gd h
                  refine go_iadd (pc' := 230) dX11_plain_229 rfl g48 ?_
                  refine go_istore (L' := [some (pvR 11 0 129), some (pvI x1), some (pvI x2), some (pvI x3), some (pvI x4), some (pvI j27), some (pvL (j15 + j19)), none, some (pvI (y3 + j46)), some (pvI y4), some (pvI j6), some (pvI (σ 145 (σ 150 y4))), some (pvI j44.1), some (pvI j44.2)]) (pc' := 232) dX11_plain_230 rfl (Nat.le_of_ble_eq_true rfl) rfl ?_
                  cases h
                  exact go_sub k11J ⟨Or.inr rfl, Or.inr rfl, Or.inr rfl, Or.inr rfl, Or.inr rfl, Or.inr rfl, Or.inr rfl, Or.inr rfl, Or.inr rfl, Or.inr rfl, Or.inr rfl, Or.inl rfl, Or.inl rfl, Or.inl rfl, trivial⟩
                clear h
                have h := k47
                refine go_if_eq (t := 228) (pc' := 224) dX11_plain_221 rfl rfl (fun c49 => ?_) (fun c49 => ?_)
                · rw [if_pos (show j44.1 = 0 from c49)] at h
                  refine go_iconst (pc' := 229) dX11_plain_228 rfl (r32_c rfl) ?_
                  cases h
                  exact k47J
                · rw [if_neg (show ¬ (j44.1 = 0) from c49)] at h
                  refine go_iconst (pc' := 225) dX11_plain_224 rfl (r32_c rfl) ?_
                  refine go_goto (t := 229) dX11_plain_225 rfl ?_
                  cases h
                  exact k47J
              clear h
              have h := k28
              refine go_icmp_le (t := 143) (pc' := 138) dX11_plain_135 rfl rfl (fun c50 => ?_) (fun c50 => ?_)
              · rw [if_pos (show (σ 145 (σ 150 y4)) ≤ y1 from c50)] at h
                refine go_iload (pc' := 145) dX11_plain_143 rfl rfl ?_
                cases h
                exact k28J
              · rw [if_neg (show ¬ ((σ 145 (σ 150 y4)) ≤ y1) from c50)] at h
                refine go_iload (pc' := 140) dX11_plain_138 rfl rfl ?_
                refine go_goto (t := 145) dX11_plain_140 rfl ?_
                cases h
                exact k28J
            clear h
            have h := k20
            refine go_icmp_ne (t := 117) (pc' := 106) dX11_plain_103 rfl rfl (fun c51 => ?_) (fun c51 => ?_)
            · rw [if_pos (show (σ 146 x4) ≠ 1 from c51)] at h
              refine go_iload (pc' := 119) dX11_plain_117 rfl rfl ?_
              refine go_aload_n (pc' := 120) dX11_plain_119 rfl rfl (Nat.le_of_ble_eq_true rfl) ?_
              refine go_getR (k' := 12) (L0 := 51) (P' := 154) (pc' := 123) dX11_plain_120 rfl rf_11_84 rfl rfl (by omega) ?_
              refine go_iload (pc' := 125) dX11_plain_123 rfl rfl ?_
              obtain ⟨g21, h⟩ := gd h
              refine go_iald (pc' := 126) dX11_plain_125 rfl g21 ?_
              obtain ⟨g22, h⟩ := gd h
              refine go_imul (pc' := 127) dX11_plain_126 rfl g22 ?_
              refine go_i2l (pc' := 128) dX11_plain_127 rfl ?_
              cases h
              exact k20J
            · rw [if_neg (show ¬ ((σ 146 x4) ≠ 1) from c51)] at h
              refine go_iload (pc' := 108) dX11_plain_106 rfl rfl ?_
              refine go_iload (pc' := 110) dX11_plain_108 rfl rfl ?_
              refine go_icmp_ge (t := 117) (pc' := 113) dX11_plain_110 rfl rfl (fun c25 => ?_) (fun c25 => ?_)
              · rw [if_pos (show y1 ≤ (σ 145 (σ 150 y4)) from c25)] at h
                refine go_iload (pc' := 119) dX11_plain_117 rfl rfl ?_
                refine go_aload_n (pc' := 120) dX11_plain_119 rfl rfl (Nat.le_of_ble_eq_true rfl) ?_
                refine go_getR (k' := 12) (L0 := 51) (P' := 154) (pc' := 123) dX11_plain_120 rfl rf_11_84 rfl rfl (by omega) ?_
                refine go_iload (pc' := 125) dX11_plain_123 rfl rfl ?_
                obtain ⟨g23, h⟩ := gd h
                refine go_iald (pc' := 126) dX11_plain_125 rfl g23 ?_
                obtain ⟨g24, h⟩ := gd h
                refine go_imul (pc' := 127) dX11_plain_126 rfl g24 ?_
                refine go_i2l (pc' := 128) dX11_plain_127 rfl ?_
                cases h
                exact k20J
              · rw [if_neg (show ¬ (y1 ≤ (σ 145 (σ 150 y4))) from c25)] at h
                refine go_lconst (z := 0) (pc' := 114) dX11_plain_113 rfl rfl ?_
                refine go_goto (t := 128) dX11_plain_114 rfl ?_
                cases h
                exact k20J
          clear h
          have h := k16
          refine go_icmp_ne (t := 89) (pc' := 78) dX11_plain_75 rfl rfl (fun c52 => ?_) (fun c52 => ?_)
          · rw [if_pos (show (σ 146 x4) ≠ 1 from c52)] at h
            refine go_lload (pc' := 91) dX11_plain_89 rfl rfl ?_
            cases h
            exact k16J
          · rw [if_neg (show ¬ ((σ 146 x4) ≠ 1) from c52)] at h
            refine go_iload (pc' := 80) dX11_plain_78 rfl rfl ?_
            refine go_iload (pc' := 82) dX11_plain_80 rfl rfl ?_
            refine go_icmp_le (t := 89) (pc' := 85) dX11_plain_82 rfl rfl (fun c17 => ?_) (fun c17 => ?_)
            · rw [if_pos (show (σ 145 (σ 150 y4)) ≤ y1 from c17)] at h
              refine go_lload (pc' := 91) dX11_plain_89 rfl rfl ?_
              cases h
              exact k16J
            · rw [if_neg (show ¬ ((σ 145 (σ 150 y4)) ≤ y1) from c17)] at h
              refine go_lconst (z := 0) (pc' := 86) dX11_plain_85 rfl rfl ?_
              refine go_goto (t := 91) dX11_plain_86 rfl ?_
              cases h
              exact k16J
      clear h
      have h := k7
      refine go_icmp_ne (t := 45) (pc' := 33) dX11_plain_30 rfl rfl (fun c55 => ?_) (fun c55 => ?_)
      · rw [if_pos (show (σ 153 y4) ≠ x4 from c55)] at h
        refine go_iconst (pc' := 46) dX11_plain_45 rfl (r32_c rfl) ?_
        cases h
        exact k7J
      · rw [if_neg (show ¬ ((σ 153 y4) ≠ x4) from c55)] at h
        refine go_aload_n (pc' := 34) dX11_plain_33 rfl rfl (Nat.le_of_ble_eq_true rfl) ?_
        refine go_iload (pc' := 36) dX11_plain_34 rfl rfl ?_
        refine go_iload_n (pc' := 37) dX11_plain_36 rfl rfl ?_
        refine go_iload_n (pc' := 38) dX11_plain_37 rfl rfl ?_
        refine go_iload_n (pc' := 39) dX11_plain_38 rfl rfl ?_
        obtain ⟨v8, k9, h⟩ := bd h
        have k9 := l_M_counts (d + 0) n e σ y4 x1 x2 x3 _ k9
        refine go_call (kc := 202) (Mc := mt202) (v := some (pvI v8)) (w' := (true, n, e, σ)) (pc' := 42) (st' := [pvI v8]) [pvR 11 0 129, pvI y4, pvI x1, pvI x2, pvI x3] [] (Or.inl rfl) dX11_plain_39 rfl rm_11_259 mtE202 rfl rfl rfl (Nat.le_of_ble_eq_true rfl) (Or.inr ⟨_, _, 129, rfl, Or.inl rfl⟩) k9 rfl ?_
        refine go_goto (t := 46) dX11_plain_42 rfl ?_
        cases h
        exact k7J

set_option maxRecDepth 10000 in
theorem l_M_plain (d : Nat) (n e : Nat) (σ : Hp) (x1 : Int) (x2 : Int) (x3 : Int) (x4 : Int) (r : Int) (h : f_M_plain σ x1 x2 x3 x4 = some r) : Ev (d + 5) 218 [pvR 11 0 129, pvI x1, pvI x2, pvI x3, pvI x4] (true, n, e, σ) (0, some (pvL r), true, n, e, σ) := by
  unfold f_M_plain at h
  refine Ev.of mtE218 rfl rfl rfl rfl ?_
  show Go none (Ev (d + 4)) mt218 0 [some (pvR 11 0 129), some (pvI x1), some (pvI x2), some (pvI x3), some (pvI x4), none, none, none, none, none, none, none, none, none] [] (true, n, e, σ) (0, some (pvL r), true, n, e, σ)
  refine go_iconst (pc' := 1) dX11_plain_0 rfl (r32_c rfl) ?_
  refine go_istore (L' := [some (pvR 11 0 129), some (pvI x1), some (pvI x2), some (pvI x3), some (pvI x4), some (pvI (-1)), none, none, none, none, none, none, none, none]) (pc' := 3) dX11_plain_1 rfl (Nat.le_of_ble_eq_true rfl) rfl ?_
  refine go_lconst (z := 0) (pc' := 4) dX11_plain_3 rfl rfl ?_
  refine go_lstore (L' := [some (pvR 11 0 129), some (pvI x1), some (pvI x2), some (pvI x3), some (pvI x4), some (pvI (-1)), some (pvL 0), none, none, none, none, none, none, none]) (pc' := 6) dX11_plain_4 rfl (Nat.le_of_ble_eq_true rfl) rfl ?_
  refine go_iconst (pc' := 7) dX11_plain_6 rfl (r32_c rfl) ?_
  refine go_istore (L' := [some (pvR 11 0 129), some (pvI x1), some (pvI x2), some (pvI x3), some (pvI x4), some (pvI (-1)), some (pvL 0), none, some (pvI 0), none, none, none, none, none]) (pc' := 9) dX11_plain_7 rfl (Nat.le_of_ble_eq_true rfl) rfl ?_
  refine go_iconst (pc' := 10) dX11_plain_9 rfl (r32_c rfl) ?_
  refine go_istore (L' := [some (pvR 11 0 129), some (pvI x1), some (pvI x2), some (pvI x3), some (pvI x4), some (pvI (-1)), some (pvL 0), none, some (pvI 0), some (pvI 0), none, none, none, none]) (pc' := 12) dX11_plain_10 rfl (Nat.le_of_ble_eq_true rfl) rfl ?_
  obtain ⟨j58, k59, h⟩ := bd h
  refine l_M_plain_12 d n e σ x1 x2 x3 x4 zFuel (-1) 0 0 0 _ k59 ?_
  refine go_iload (pc' := 240) dX11_plain_238 rfl rfl ?_
  obtain ⟨j60, k61, h⟩ := bd h
  have k61J : Go none (Ev (d + 4)) mt218 268 [some (pvR 11 0 129), some (pvI x1), some (pvI x2), some (pvI x3), some (pvI x4), some (pvI j58.1), some (pvL j58.2.1), none, some (pvI j58.2.2.1), some (pvI j58.2.2.2), none, none, none, none] [pvL j60] (true, n, e, σ) (0, some (pvL r), true, n, e, σ) := by
    cases h
    exact go_lret dX11_plain_268 rfl rfl
  clear h
  have h := k61
  refine go_if_ge (t := 249) (pc' := 243) dX11_plain_240 rfl rfl (fun c64 => ?_) (fun c64 => ?_)
  · rw [if_pos (show 0 ≤ j58.1 from c64)] at h
    refine go_aload_n (pc' := 250) dX11_plain_249 rfl rfl (Nat.le_of_ble_eq_true rfl) ?_
    refine go_getR (k' := 12) (L0 := 4) (P' := 146) (pc' := 253) dX11_plain_250 rfl rf_11_60 rfl rfl (by omega) ?_
    refine go_iload (pc' := 255) dX11_plain_253 rfl rfl ?_
    obtain ⟨g62, h⟩ := gd h
    refine go_iald (pc' := 256) dX11_plain_255 rfl g62 ?_
    refine go_iconst (pc' := 257) dX11_plain_256 rfl (r32_c rfl) ?_
    refine go_icmp_ne (t := 266) (pc' := 260) dX11_plain_257 rfl rfl (fun c63 => ?_) (fun c63 => ?_)
    · rw [if_pos (show (σ 146 x4) ≠ 2 from c63)] at h
      refine go_lload (pc' := 268) dX11_plain_266 rfl rfl ?_
      cases h
      exact k61J
    · rw [if_neg (show ¬ ((σ 146 x4) ≠ 2) from c63)] at h
      refine go_iload (pc' := 262) dX11_plain_260 rfl rfl ?_
      refine go_i2l (pc' := 263) dX11_plain_262 rfl ?_
      refine go_goto (t := 268) dX11_plain_263 rfl ?_
      cases h
      exact k61J
  · rw [if_neg (show ¬ (0 ≤ j58.1) from c64)] at h
    refine go_ldc2 (pc' := 246) dX11_plain_243 rfl (r64_c rfl) rc_11_262 ?_
    refine go_goto (t := 268) dX11_plain_246 rfl ?_
    cases h
    exact k61J

