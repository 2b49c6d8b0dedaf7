/-! ===== the constructors at their places (printed by wip/p28/gen/cons.py) ===== -/
def k_MV_new_3 (σ : Hp) : Hp := (hset (zNew (hset (zNew (hset (zNew σ 4) 3 1 4) 5) 3 2 5) 6) 3 3 6)
set_option maxRecDepth 10000 in
theorem l_MV_new_3 (d e : Nat) (σ : Hp) : Ev (d + 1) 3 [pvR 5 0 3] (false, 4, e, σ) (0, none, false, 7, e, k_MV_new_3 σ) := by
  refine Ev.of mtE3 rfl rfl rfl rfl ?_
  show Go none (Ev (d + 0)) mt3 0 [some (pvR 5 0 3)] [] (false, 4, e, σ) (0, none, false, 7, e, k_MV_new_3 σ)
  refine go_aload_n (pc' := 1) dX5_init_0 rfl rfl (Nat.le_of_ble_eq_true rfl) ?_
  refine go_obj (pc' := 4) dX5_init_1 rfl rm_5_3 (Nat.le_of_ble_eq_true rfl) ?_
  refine go_aload_n (pc' := 5) dX5_init_4 rfl rfl (Nat.le_of_ble_eq_true rfl) ?_
  refine go_bipush (pc' := 7) dX5_init_5 rfl (r32_c rfl) (by decide) ?_
  refine go_newarr (k := 12) (L0 := 10) dX5_init_7 rfl (by decide) rfl rfl rfl (by decide) rfl ?_
  refine go_putR (P' := 4) (pc' := 12) dX5_init_9 rfl rf_5_9 rfl rfl rfl ⟨rfl, rfl⟩ ?_
  refine go_aload_n (pc' := 13) dX5_init_12 rfl rfl (Nat.le_of_ble_eq_true rfl) ?_
  refine go_bipush (pc' := 15) dX5_init_13 rfl (r32_c rfl) (by decide) ?_
  refine go_newarr (k := 12) (L0 := 10) dX5_init_15 rfl (by decide) rfl rfl rfl (by decide) rfl ?_
  refine go_putR (P' := 5) (pc' := 20) dX5_init_17 rfl rf_5_15 rfl rfl rfl ⟨rfl, rfl⟩ ?_
  refine go_aload_n (pc' := 21) dX5_init_20 rfl rfl (Nat.le_of_ble_eq_true rfl) ?_
  refine go_bipush (pc' := 23) dX5_init_21 rfl (r32_c rfl) (by decide) ?_
  refine go_newarr (k := 12) (L0 := 10) dX5_init_23 rfl (by decide) rfl rfl rfl (by decide) rfl ?_
  refine go_putR (P' := 6) (pc' := 28) dX5_init_25 rfl rf_5_18 rfl rfl rfl ⟨rfl, rfl⟩ ?_
  exact go_vret dX5_init_28 rfl rfl

def k_D_new_2 (σ : Hp) : Hp := (hset (hset (hset (hset (hset (hset (hset (hset (hset (hset (hset (hset (hset (hset (hset (hset (zRows (hset (zNew (hset (zNew (hset (zNew (hset (zNew (hset (zNew (hset (zNew (hset (zNew (hset (zNew (hset (zNew (hset (zNew (hset (zNew (hset (k_MV_new_3 (zNew (hset σ 2 0 1) 3)) 2 3 3) 7) 2 4 7) 8) 2 5 8) 9) 2 6 9) 10) 2 7 10) 11) 2 8 11) 12) 2 9 12) 13) 2 10 13) 14) 2 11 14) 15) 2 12 15) 16) 2 13 16) 17) 2 14 17) 18) 2 15 18) 15 0 (-1)) 17 0 1) 19 0 1) 20 0 1) 21 0 1) 22 0 1) 23 0 1) 24 0 1) 25 0 1) 26 0 1) 27 0 1) 28 0 1) 29 0 1) 30 0 1) 31 0 1)
set_option maxRecDepth 10000 in
theorem l_D_new_2 (d e : Nat) (σ : Hp) : Ev (d + 2) 2 [pvR 0 0 2] (false, 3, e, σ) (0, none, false, 32, e, k_D_new_2 σ) := by
  refine Ev.of mtE2 rfl rfl rfl rfl ?_
  show Go none (Ev (d + 1)) mt2 0 [some (pvR 0 0 2), none] [] (false, 3, e, σ) (0, none, false, 32, e, k_D_new_2 σ)
  refine go_aload_n (pc' := 1) dX0_init_0 rfl rfl (Nat.le_of_ble_eq_true rfl) ?_
  refine go_obj (pc' := 4) dX0_init_1 rfl rm_0_3 (Nat.le_of_ble_eq_true rfl) ?_
  refine go_aload_n (pc' := 5) dX0_init_4 rfl rfl (Nat.le_of_ble_eq_true rfl) ?_
  refine go_iconst (pc' := 6) dX0_init_5 rfl (r32_c rfl) ?_
  refine go_putI (pc' := 9) dX0_init_6 rfl rf_0_9 rfl ?_
  refine go_aload_n (pc' := 10) dX0_init_9 rfl rfl (Nat.le_of_ble_eq_true rfl) ?_
  refine go_new (k := 5) dX0_init_10 rfl (by decide) (by decide +kernel) rfl rfl (by decide) ?_
  refine go_dup (pc' := 14) dX0_init_13 rfl (Nat.ne_of_beq_eq_false rfl) ?_
  refine go_call (kc := 3) (Mc := mt3) (v := none) (pc' := 17) [pvR 5 0 3] [pvR 5 0 3, pvR 0 0 2] (Or.inr (Or.inr (Or.inr (Or.inr rfl)))) dX0_init_14 rfl rm_0_17 mtE3 rfl rfl rfl (Nat.le_of_ble_eq_true rfl) (Or.inr ⟨_, _, 3, rfl, Or.inl rfl⟩) (l_MV_new_3 (d + 0) e _) rfl ?_
  refine go_putR (P' := 3) (pc' := 20) dX0_init_17 rfl rf_0_18 rfl rfl rfl ⟨rfl, rfl⟩ ?_
  refine go_aload_n (pc' := 21) dX0_init_20 rfl rfl (Nat.le_of_ble_eq_true rfl) ?_
  refine go_bipush (pc' := 23) dX0_init_21 rfl (r32_c rfl) (by decide) ?_
  refine go_newarr (k := 12) (L0 := 12) dX0_init_23 rfl (by decide) rfl rfl rfl (by decide) rfl ?_
  refine go_putR (P' := 7) (pc' := 28) dX0_init_25 rfl rf_0_22 rfl rfl rfl ⟨rfl, rfl⟩ ?_
  refine go_aload_n (pc' := 29) dX0_init_28 rfl rfl (Nat.le_of_ble_eq_true rfl) ?_
  refine go_bipush (pc' := 31) dX0_init_29 rfl (r32_c rfl) (by decide) ?_
  refine go_newarr (k := 12) (L0 := 12) dX0_init_31 rfl (by decide) rfl rfl rfl (by decide) rfl ?_
  refine go_putR (P' := 8) (pc' := 36) dX0_init_33 rfl rf_0_26 rfl rfl rfl ⟨rfl, rfl⟩ ?_
  refine go_aload_n (pc' := 37) dX0_init_36 rfl rfl (Nat.le_of_ble_eq_true rfl) ?_
  refine go_bipush (pc' := 39) dX0_init_37 rfl (r32_c rfl) (by decide) ?_
  refine go_newarr (k := 12) (L0 := 12) dX0_init_39 rfl (by decide) rfl rfl rfl (by decide) rfl ?_
  refine go_putR (P' := 9) (pc' := 44) dX0_init_41 rfl rf_0_29 rfl rfl rfl ⟨rfl, rfl⟩ ?_
  refine go_aload_n (pc' := 45) dX0_init_44 rfl rfl (Nat.le_of_ble_eq_true rfl) ?_
  refine go_bipush (pc' := 47) dX0_init_45 rfl (r32_c rfl) (by decide) ?_
  refine go_newarr (k := 12) (L0 := 12) dX0_init_47 rfl (by decide) rfl rfl rfl (by decide) rfl ?_
  refine go_putR (P' := 10) (pc' := 52) dX0_init_49 rfl rf_0_32 rfl rfl rfl ⟨rfl, rfl⟩ ?_
  refine go_aload_n (pc' := 53) dX0_init_52 rfl rfl (Nat.le_of_ble_eq_true rfl) ?_
  refine go_bipush (pc' := 55) dX0_init_53 rfl (r32_c rfl) (by decide) ?_
  refine go_newarr (k := 12) (L0 := 12) dX0_init_55 rfl (by decide) rfl rfl rfl (by decide) rfl ?_
  refine go_putR (P' := 11) (pc' := 60) dX0_init_57 rfl rf_0_35 rfl rfl rfl ⟨rfl, rfl⟩ ?_
  refine go_aload_n (pc' := 61) dX0_init_60 rfl rfl (Nat.le_of_ble_eq_true rfl) ?_
  refine go_bipush (pc' := 63) dX0_init_61 rfl (r32_c rfl) (by decide) ?_
  refine go_newarr (k := 14) (L0 := 12) dX0_init_63 rfl (by decide) rfl rfl rfl (by decide) rfl ?_
  refine go_putR (P' := 12) (pc' := 68) dX0_init_65 rfl rf_0_38 rfl rfl rfl ⟨rfl, rfl⟩ ?_
  refine go_aload_n (pc' := 69) dX0_init_68 rfl rfl (Nat.le_of_ble_eq_true rfl) ?_
  refine go_bipush (pc' := 71) dX0_init_69 rfl (r32_c rfl) (by decide) ?_
  refine go_anew dX0_init_71 rfl (by decide) rfl (by decide +kernel) rfl rfl ?_
  refine go_putR (P' := 13) (pc' := 77) dX0_init_74 rfl rf_0_44 rfl rfl rfl ⟨rfl, rfl⟩ ?_
  refine go_aload_n (pc' := 78) dX0_init_77 rfl rfl (Nat.le_of_ble_eq_true rfl) ?_
  refine go_bipush (pc' := 80) dX0_init_78 rfl (r32_c rfl) (by decide) ?_
  refine go_newarr (k := 12) (L0 := 12) dX0_init_80 rfl (by decide) rfl rfl rfl (by decide) rfl ?_
  refine go_putR (P' := 14) (pc' := 85) dX0_init_82 rfl rf_0_48 rfl rfl rfl ⟨rfl, rfl⟩ ?_
  refine go_aload_n (pc' := 86) dX0_init_85 rfl rfl (Nat.le_of_ble_eq_true rfl) ?_
  refine go_bipush (pc' := 88) dX0_init_86 rfl (r32_c rfl) (by decide) ?_
  refine go_newarr (k := 12) (L0 := 12) dX0_init_88 rfl (by decide) rfl rfl rfl (by decide) rfl ?_
  refine go_putR (P' := 15) (pc' := 93) dX0_init_90 rfl rf_0_51 rfl rfl rfl ⟨rfl, rfl⟩ ?_
  refine go_aload_n (pc' := 94) dX0_init_93 rfl rfl (Nat.le_of_ble_eq_true rfl) ?_
  refine go_bipush (pc' := 96) dX0_init_94 rfl (r32_c rfl) (by decide) ?_
  refine go_newarr (k := 12) (L0 := 12) dX0_init_96 rfl (by decide) rfl rfl rfl (by decide) rfl ?_
  refine go_putR (P' := 16) (pc' := 101) dX0_init_98 rfl rf_0_54 rfl rfl rfl ⟨rfl, rfl⟩ ?_
  refine go_aload_n (pc' := 102) dX0_init_101 rfl rfl (Nat.le_of_ble_eq_true rfl) ?_
  refine go_bipush (pc' := 104) dX0_init_102 rfl (r32_c rfl) (by decide) ?_
  refine go_newarr (k := 14) (L0 := 12) dX0_init_104 rfl (by decide) rfl rfl rfl (by decide) rfl ?_
  refine go_putR (P' := 17) (pc' := 109) dX0_init_106 rfl rf_0_57 rfl rfl rfl ⟨rfl, rfl⟩ ?_
  refine go_aload_n (pc' := 110) dX0_init_109 rfl rfl (Nat.le_of_ble_eq_true rfl) ?_
  refine go_bipush (pc' := 112) dX0_init_110 rfl (r32_c rfl) (by decide) ?_
  refine go_sipush (pc' := 115) dX0_init_112 rfl (r32_c rfl) (by decide) ?_
  refine go_multi dX0_init_115 rfl rfl (by decide) rfl rfl (by decide) ?_
  refine go_putR (P' := 18) (pc' := 122) dX0_init_119 rfl rf_0_62 rfl rfl rfl ⟨rfl, rfl⟩ ?_
  refine go_aload_n (pc' := 123) dX0_init_122 rfl rfl (Nat.le_of_ble_eq_true rfl) ?_
  refine go_getRC (k' := 12) (L0 := 12) (P' := 15) (pc' := 126) dX0_init_123 rfl rf_0_51 rfl rfl rfl rfl ?_
  refine go_iconst (pc' := 127) dX0_init_126 rfl (r32_c rfl) ?_
  refine go_iconst (pc' := 128) dX0_init_127 rfl (r32_c rfl) ?_
  refine go_iast (pc' := 129) dX0_init_128 rfl (by decide) ?_
  refine go_aload_n (pc' := 130) dX0_init_129 rfl rfl (Nat.le_of_ble_eq_true rfl) ?_
  refine go_getRC (k' := 14) (L0 := 12) (P' := 17) (pc' := 133) dX0_init_130 rfl rf_0_57 rfl rfl rfl rfl ?_
  refine go_iconst (pc' := 134) dX0_init_133 rfl (r32_c rfl) ?_
  refine go_iconst (pc' := 135) dX0_init_134 rfl (r32_c rfl) ?_
  refine go_zast (pc' := 136) dX0_init_135 rfl (by decide) (by decide) ?_
  refine go_iconst (pc' := 137) dX0_init_136 rfl (r32_c rfl) ?_
  refine go_istore_n (L' := [some (pvR 0 0 2), some (pvI 0)]) (pc' := 138) dX0_init_137 rfl (Nat.le_of_ble_eq_true rfl) rfl ?_
  refine go_iload_n (pc' := 139) dX0_init_138 rfl rfl ?_
  refine go_bipush (pc' := 141) dX0_init_139 rfl (r32_c rfl) (by decide) ?_
  refine go_icmp_gt (t := 159) (pc' := 144) dX0_init_141 rfl rfl (fun c => absurd c (by decide)) (fun _ => ?_)
  refine go_aload_n (pc' := 145) dX0_init_144 rfl rfl (Nat.le_of_ble_eq_true rfl) ?_
  refine go_getRC (k' := 16) (L0 := 13) (P' := 18) (pc' := 148) dX0_init_145 rfl rf_0_62 rfl rfl rfl rfl ?_
  refine go_iload_n (pc' := 149) dX0_init_148 rfl rfl ?_
  refine go_rald (pc' := 150) dX0_init_149 rfl (by decide) ?_
  refine go_iconst (pc' := 151) dX0_init_150 rfl (r32_c rfl) ?_
  refine go_iconst (pc' := 152) dX0_init_151 rfl (r32_c rfl) ?_
  refine go_iast (pc' := 153) dX0_init_152 rfl (by decide) ?_
  refine go_iinc (L' := [some (pvR 0 0 2), some (pvI 1)]) (pc' := 156) dX0_init_153 rfl rfl (r32_c rfl) rfl ?_
  refine go_goto (t := 138) dX0_init_156 rfl ?_
  refine go_iload_n (pc' := 139) dX0_init_138 rfl rfl ?_
  refine go_bipush (pc' := 141) dX0_init_139 rfl (r32_c rfl) (by decide) ?_
  refine go_icmp_gt (t := 159) (pc' := 144) dX0_init_141 rfl rfl (fun c => absurd c (by decide)) (fun _ => ?_)
  refine go_aload_n (pc' := 145) dX0_init_144 rfl rfl (Nat.le_of_ble_eq_true rfl) ?_
  refine go_getRC (k' := 16) (L0 := 13) (P' := 18) (pc' := 148) dX0_init_145 rfl rf_0_62 rfl rfl rfl rfl ?_
  refine go_iload_n (pc' := 149) dX0_init_148 rfl rfl ?_
  refine go_rald (pc' := 150) dX0_init_149 rfl (by decide) ?_
  refine go_iconst (pc' := 151) dX0_init_150 rfl (r32_c rfl) ?_
  refine go_iconst (pc' := 152) dX0_init_151 rfl (r32_c rfl) ?_
  refine go_iast (pc' := 153) dX0_init_152 rfl (by decide) ?_
  refine go_iinc (L' := [some (pvR 0 0 2), some (pvI 2)]) (pc' := 156) dX0_init_153 rfl rfl (r32_c rfl) rfl ?_
  refine go_goto (t := 138) dX0_init_156 rfl ?_
  refine go_iload_n (pc' := 139) dX0_init_138 rfl rfl ?_
  refine go_bipush (pc' := 141) dX0_init_139 rfl (r32_c rfl) (by decide) ?_
  refine go_icmp_gt (t := 159) (pc' := 144) dX0_init_141 rfl rfl (fun c => absurd c (by decide)) (fun _ => ?_)
  refine go_aload_n (pc' := 145) dX0_init_144 rfl rfl (Nat.le_of_ble_eq_true rfl) ?_
  refine go_getRC (k' := 16) (L0 := 13) (P' := 18) (pc' := 148) dX0_init_145 rfl rf_0_62 rfl rfl rfl rfl ?_
  refine go_iload_n (pc' := 149) dX0_init_148 rfl rfl ?_
  refine go_rald (pc' := 150) dX0_init_149 rfl (by decide) ?_
  refine go_iconst (pc' := 151) dX0_init_150 rfl (r32_c rfl) ?_
  refine go_iconst (pc' := 152) dX0_init_151 rfl (r32_c rfl) ?_
  refine go_iast (pc' := 153) dX0_init_152 rfl (by decide) ?_
  refine go_iinc (L' := [some (pvR 0 0 2), some (pvI 3)]) (pc' := 156) dX0_init_153 rfl rfl (r32_c rfl) rfl ?_
  refine go_goto (t := 138) dX0_init_156 rfl ?_
  refine go_iload_n (pc' := 139) dX0_init_138 rfl rfl ?_
  refine go_bipush (pc' := 141) dX0_init_139 rfl (r32_c rfl) (by decide) ?_
  refine go_icmp_gt (t := 159) (pc' := 144) dX0_init_141 rfl rfl (fun c => absurd c (by decide)) (fun _ => ?_)
  refine go_aload_n (pc' := 145) dX0_init_144 rfl rfl (Nat.le_of_ble_eq_true rfl) ?_
  refine go_getRC (k' := 16) (L0 := 13) (P' := 18) (pc' := 148) dX0_init_145 rfl rf_0_62 rfl rfl rfl rfl ?_
  refine go_iload_n (pc' := 149) dX0_init_148 rfl rfl ?_
  refine go_rald (pc' := 150) dX0_init_149 rfl (by decide) ?_
  refine go_iconst (pc' := 151) dX0_init_150 rfl (r32_c rfl) ?_
  refine go_iconst (pc' := 152) dX0_init_151 rfl (r32_c rfl) ?_
  refine go_iast (pc' := 153) dX0_init_152 rfl (by decide) ?_
  refine go_iinc (L' := [some (pvR 0 0 2), some (pvI 4)]) (pc' := 156) dX0_init_153 rfl rfl (r32_c rfl) rfl ?_
  refine go_goto (t := 138) dX0_init_156 rfl ?_
  refine go_iload_n (pc' := 139) dX0_init_138 rfl rfl ?_
  refine go_bipush (pc' := 141) dX0_init_139 rfl (r32_c rfl) (by decide) ?_
  refine go_icmp_gt (t := 159) (pc' := 144) dX0_init_141 rfl rfl (fun c => absurd c (by decide)) (fun _ => ?_)
  refine go_aload_n (pc' := 145) dX0_init_144 rfl rfl (Nat.le_of_ble_eq_true rfl) ?_
  refine go_getRC (k' := 16) (L0 := 13) (P' := 18) (pc' := 148) dX0_init_145 rfl rf_0_62 rfl rfl rfl rfl ?_
  refine go_iload_n (pc' := 149) dX0_init_148 rfl rfl ?_
  refine go_rald (pc' := 150) dX0_init_149 rfl (by decide) ?_
  refine go_iconst (pc' := 151) dX0_init_150 rfl (r32_c rfl) ?_
  refine go_iconst (pc' := 152) dX0_init_151 rfl (r32_c rfl) ?_
  refine go_iast (pc' := 153) dX0_init_152 rfl (by decide) ?_
  refine go_iinc (L' := [some (pvR 0 0 2), some (pvI 5)]) (pc' := 156) dX0_init_153 rfl rfl (r32_c rfl) rfl ?_
  refine go_goto (t := 138) dX0_init_156 rfl ?_
  refine go_iload_n (pc' := 139) dX0_init_138 rfl rfl ?_
  refine go_bipush (pc' := 141) dX0_init_139 rfl (r32_c rfl) (by decide) ?_
  refine go_icmp_gt (t := 159) (pc' := 144) dX0_init_141 rfl rfl (fun c => absurd c (by decide)) (fun _ => ?_)
  refine go_aload_n (pc' := 145) dX0_init_144 rfl rfl (Nat.le_of_ble_eq_true rfl) ?_
  refine go_getRC (k' := 16) (L0 := 13) (P' := 18) (pc' := 148) dX0_init_145 rfl rf_0_62 rfl rfl rfl rfl ?_
  refine go_iload_n (pc' := 149) dX0_init_148 rfl rfl ?_
  refine go_rald (pc' := 150) dX0_init_149 rfl (by decide) ?_
  refine go_iconst (pc' := 151) dX0_init_150 rfl (r32_c rfl) ?_
  refine go_iconst (pc' := 152) dX0_init_151 rfl (r32_c rfl) ?_
  refine go_iast (pc' := 153) dX0_init_152 rfl (by decide) ?_
  refine go_iinc (L' := [some (pvR 0 0 2), some (pvI 6)]) (pc' := 156) dX0_init_153 rfl rfl (r32_c rfl) rfl ?_
  refine go_goto (t := 138) dX0_init_156 rfl ?_
  refine go_iload_n (pc' := 139) dX0_init_138 rfl rfl ?_
  refine go_bipush (pc' := 141) dX0_init_139 rfl (r32_c rfl) (by decide) ?_
  refine go_icmp_gt (t := 159) (pc' := 144) dX0_init_141 rfl rfl (fun c => absurd c (by decide)) (fun _ => ?_)
  refine go_aload_n (pc' := 145) dX0_init_144 rfl rfl (Nat.le_of_ble_eq_true rfl) ?_
  refine go_getRC (k' := 16) (L0 := 13) (P' := 18) (pc' := 148) dX0_init_145 rfl rf_0_62 rfl rfl rfl rfl ?_
  refine go_iload_n (pc' := 149) dX0_init_148 rfl rfl ?_
  refine go_rald (pc' := 150) dX0_init_149 rfl (by decide) ?_
  refine go_iconst (pc' := 151) dX0_init_150 rfl (r32_c rfl) ?_
  refine go_iconst (pc' := 152) dX0_init_151 rfl (r32_c rfl) ?_
  refine go_iast (pc' := 153) dX0_init_152 rfl (by decide) ?_
  refine go_iinc (L' := [some (pvR 0 0 2), some (pvI 7)]) (pc' := 156) dX0_init_153 rfl rfl (r32_c rfl) rfl ?_
  refine go_goto (t := 138) dX0_init_156 rfl ?_
  refine go_iload_n (pc' := 139) dX0_init_138 rfl rfl ?_
  refine go_bipush (pc' := 141) dX0_init_139 rfl (r32_c rfl) (by decide) ?_
  refine go_icmp_gt (t := 159) (pc' := 144) dX0_init_141 rfl rfl (fun c => absurd c (by decide)) (fun _ => ?_)
  refine go_aload_n (pc' := 145) dX0_init_144 rfl rfl (Nat.le_of_ble_eq_true rfl) ?_
  refine go_getRC (k' := 16) (L0 := 13) (P' := 18) (pc' := 148) dX0_init_145 rfl rf_0_62 rfl rfl rfl rfl ?_
  refine go_iload_n (pc' := 149) dX0_init_148 rfl rfl ?_
  refine go_rald (pc' := 150) dX0_init_149 rfl (by decide) ?_
  refine go_iconst (pc' := 151) dX0_init_150 rfl (r32_c rfl) ?_
  refine go_iconst (pc' := 152) dX0_init_151 rfl (r32_c rfl) ?_
  refine go_iast (pc' := 153) dX0_init_152 rfl (by decide) ?_
  refine go_iinc (L' := [some (pvR 0 0 2), some (pvI 8)]) (pc' := 156) dX0_init_153 rfl rfl (r32_c rfl) rfl ?_
  refine go_goto (t := 138) dX0_init_156 rfl ?_
  refine go_iload_n (pc' := 139) dX0_init_138 rfl rfl ?_
  refine go_bipush (pc' := 141) dX0_init_139 rfl (r32_c rfl) (by decide) ?_
  refine go_icmp_gt (t := 159) (pc' := 144) dX0_init_141 rfl rfl (fun c => absurd c (by decide)) (fun _ => ?_)
  refine go_aload_n (pc' := 145) dX0_init_144 rfl rfl (Nat.le_of_ble_eq_true rfl) ?_
  refine go_getRC (k' := 16) (L0 := 13) (P' := 18) (pc' := 148) dX0_init_145 rfl rf_0_62 rfl rfl rfl rfl ?_
  refine go_iload_n (pc' := 149) dX0_init_148 rfl rfl ?_
  refine go_rald (pc' := 150) dX0_init_149 rfl (by decide) ?_
  refine go_iconst (pc' := 151) dX0_init_150 rfl (r32_c rfl) ?_
  refine go_iconst (pc' := 152) dX0_init_151 rfl (r32_c rfl) ?_
  refine go_iast (pc' := 153) dX0_init_152 rfl (by decide) ?_
  refine go_iinc (L' := [some (pvR 0 0 2), some (pvI 9)]) (pc' := 156) dX0_init_153 rfl rfl (r32_c rfl) rfl ?_
  refine go_goto (t := 138) dX0_init_156 rfl ?_
  refine go_iload_n (pc' := 139) dX0_init_138 rfl rfl ?_
  refine go_bipush (pc' := 141) dX0_init_139 rfl (r32_c rfl) (by decide) ?_
  refine go_icmp_gt (t := 159) (pc' := 144) dX0_init_141 rfl rfl (fun c => absurd c (by decide)) (fun _ => ?_)
  refine go_aload_n (pc' := 145) dX0_init_144 rfl rfl (Nat.le_of_ble_eq_true rfl) ?_
  refine go_getRC (k' := 16) (L0 := 13) (P' := 18) (pc' := 148) dX0_init_145 rfl rf_0_62 rfl rfl rfl rfl ?_
  refine go_iload_n (pc' := 149) dX0_init_148 rfl rfl ?_
  refine go_rald (pc' := 150) dX0_init_149 rfl (by decide) ?_
  refine go_iconst (pc' := 151) dX0_init_150 rfl (r32_c rfl) ?_
  refine go_iconst (pc' := 152) dX0_init_151 rfl (r32_c rfl) ?_
  refine go_iast (pc' := 153) dX0_init_152 rfl (by decide) ?_
  refine go_iinc (L' := [some (pvR 0 0 2), some (pvI 10)]) (pc' := 156) dX0_init_153 rfl rfl (r32_c rfl) rfl ?_
  refine go_goto (t := 138) dX0_init_156 rfl ?_
  refine go_iload_n (pc' := 139) dX0_init_138 rfl rfl ?_
  refine go_bipush (pc' := 141) dX0_init_139 rfl (r32_c rfl) (by decide) ?_
  refine go_icmp_gt (t := 159) (pc' := 144) dX0_init_141 rfl rfl (fun c => absurd c (by decide)) (fun _ => ?_)
  refine go_aload_n (pc' := 145) dX0_init_144 rfl rfl (Nat.le_of_ble_eq_true rfl) ?_
  refine go_getRC (k' := 16) (L0 := 13) (P' := 18) (pc' := 148) dX0_init_145 rfl rf_0_62 rfl rfl rfl rfl ?_
  refine go_iload_n (pc' := 149) dX0_init_148 rfl rfl ?_
  refine go_rald (pc' := 150) dX0_init_149 rfl (by decide) ?_
  refine go_iconst (pc' := 151) dX0_init_150 rfl (r32_c rfl) ?_
  refine go_iconst (pc' := 152) dX0_init_151 rfl (r32_c rfl) ?_
  refine go_iast (pc' := 153) dX0_init_152 rfl (by decide) ?_
  refine go_iinc (L' := [some (pvR 0 0 2), some (pvI 11)]) (pc' := 156) dX0_init_153 rfl rfl (r32_c rfl) rfl ?_
  refine go_goto (t := 138) dX0_init_156 rfl ?_
  refine go_iload_n (pc' := 139) dX0_init_138 rfl rfl ?_
  refine go_bipush (pc' := 141) dX0_init_139 rfl (r32_c rfl) (by decide) ?_
  refine go_icmp_gt (t := 159) (pc' := 144) dX0_init_141 rfl rfl (fun c => absurd c (by decide)) (fun _ => ?_)
  refine go_aload_n (pc' := 145) dX0_init_144 rfl rfl (Nat.le_of_ble_eq_true rfl) ?_
  refine go_getRC (k' := 16) (L0 := 13) (P' := 18) (pc' := 148) dX0_init_145 rfl rf_0_62 rfl rfl rfl rfl ?_
  refine go_iload_n (pc' := 149) dX0_init_148 rfl rfl ?_
  refine go_rald (pc' := 150) dX0_init_149 rfl (by decide) ?_
  refine go_iconst (pc' := 151) dX0_init_150 rfl (r32_c rfl) ?_
  refine go_iconst (pc' := 152) dX0_init_151 rfl (r32_c rfl) ?_
  refine go_iast (pc' := 153) dX0_init_152 rfl (by decide) ?_
  refine go_iinc (L' := [some (pvR 0 0 2), some (pvI 12)]) (pc' := 156) dX0_init_153 rfl rfl (r32_c rfl) rfl ?_
  refine go_goto (t := 138) dX0_init_156 rfl ?_
  refine go_iload_n (pc' := 139) dX0_init_138 rfl rfl ?_
  refine go_bipush (pc' := 141) dX0_init_139 rfl (r32_c rfl) (by decide) ?_
  refine go_icmp_gt (t := 159) (pc' := 144) dX0_init_141 rfl rfl (fun c => absurd c (by decide)) (fun _ => ?_)
  refine go_aload_n (pc' := 145) dX0_init_144 rfl rfl (Nat.le_of_ble_eq_true rfl) ?_
  refine go_getRC (k' := 16) (L0 := 13) (P' := 18) (pc' := 148) dX0_init_145 rfl rf_0_62 rfl rfl rfl rfl ?_
  refine go_iload_n (pc' := 149) dX0_init_148 rfl rfl ?_
  refine go_rald (pc' := 150) dX0_init_149 rfl (by decide) ?_
  refine go_iconst (pc' := 151) dX0_init_150 rfl (r32_c rfl) ?_
  refine go_iconst (pc' := 152) dX0_init_151 rfl (r32_c rfl) ?_
  refine go_iast (pc' := 153) dX0_init_152 rfl (by decide) ?_
  refine go_iinc (L' := [some (pvR 0 0 2), some (pvI 13)]) (pc' := 156) dX0_init_153 rfl rfl (r32_c rfl) rfl ?_
  refine go_goto (t := 138) dX0_init_156 rfl ?_
  refine go_iload_n (pc' := 139) dX0_init_138 rfl rfl ?_
  refine go_bipush (pc' := 141) dX0_init_139 rfl (r32_c rfl) (by decide) ?_
  refine go_icmp_gt (t := 159) (pc' := 144) dX0_init_141 rfl rfl (fun _ => ?_) (fun c => absurd (by decide) c)
  exact go_vret dX0_init_159 rfl rfl

def k_MV_new_33 (σ : Hp) : Hp := (hset (zNew (hset (zNew (hset (zNew σ 34) 33 1 34) 35) 33 2 35) 36) 33 3 36)
set_option maxRecDepth 10000 in
theorem l_MV_new_33 (d e : Nat) (σ : Hp) : Ev (d + 1) 3 [pvR 5 0 33] (false, 34, e, σ) (0, none, false, 37, e, k_MV_new_33 σ) := by
  refine Ev.of mtE3 rfl rfl rfl rfl ?_
  show Go none (Ev (d + 0)) mt3 0 [some (pvR 5 0 33)] [] (false, 34, e, σ) (0, none, false, 37, e, k_MV_new_33 σ)
  refine go_aload_n (pc' := 1) dX5_init_0 rfl rfl (Nat.le_of_ble_eq_true rfl) ?_
  refine go_obj (pc' := 4) dX5_init_1 rfl rm_5_3 (Nat.le_of_ble_eq_true rfl) ?_
  refine go_aload_n (pc' := 5) dX5_init_4 rfl rfl (Nat.le_of_ble_eq_true rfl) ?_
  refine go_bipush (pc' := 7) dX5_init_5 rfl (r32_c rfl) (by decide) ?_
  refine go_newarr (k := 12) (L0 := 10) dX5_init_7 rfl (by decide) rfl rfl rfl (by decide) rfl ?_
  refine go_putR (P' := 34) (pc' := 12) dX5_init_9 rfl rf_5_9 rfl rfl rfl ⟨rfl, rfl⟩ ?_
  refine go_aload_n (pc' := 13) dX5_init_12 rfl rfl (Nat.le_of_ble_eq_true rfl) ?_
  refine go_bipush (pc' := 15) dX5_init_13 rfl (r32_c rfl) (by decide) ?_
  refine go_newarr (k := 12) (L0 := 10) dX5_init_15 rfl (by decide) rfl rfl rfl (by decide) rfl ?_
  refine go_putR (P' := 35) (pc' := 20) dX5_init_17 rfl rf_5_15 rfl rfl rfl ⟨rfl, rfl⟩ ?_
  refine go_aload_n (pc' := 21) dX5_init_20 rfl rfl (Nat.le_of_ble_eq_true rfl) ?_
  refine go_bipush (pc' := 23) dX5_init_21 rfl (r32_c rfl) (by decide) ?_
  refine go_newarr (k := 12) (L0 := 10) dX5_init_23 rfl (by decide) rfl rfl rfl (by decide) rfl ?_
  refine go_putR (P' := 36) (pc' := 28) dX5_init_25 rfl rf_5_18 rfl rfl rfl ⟨rfl, rfl⟩ ?_
  exact go_vret dX5_init_28 rfl rfl

def k_D_new_32 (σ : Hp) : Hp := (hset (hset (hset (hset (hset (hset (hset (hset (hset (hset (hset (hset (hset (hset (hset (hset (zRows (hset (zNew (hset (zNew (hset (zNew (hset (zNew (hset (zNew (hset (zNew (hset (zNew (hset (zNew (hset (zNew (hset (zNew (hset (zNew (hset (k_MV_new_33 (zNew (hset σ 32 0 1) 33)) 32 3 33) 37) 32 4 37) 38) 32 5 38) 39) 32 6 39) 40) 32 7 40) 41) 32 8 41) 42) 32 9 42) 43) 32 10 43) 44) 32 11 44) 45) 32 12 45) 46) 32 13 46) 47) 32 14 47) 48) 32 15 48) 45 0 (-1)) 47 0 1) 49 0 1) 50 0 1) 51 0 1) 52 0 1) 53 0 1) 54 0 1) 55 0 1) 56 0 1) 57 0 1) 58 0 1) 59 0 1) 60 0 1) 61 0 1)
set_option maxRecDepth 10000 in
theorem l_D_new_32 (d e : Nat) (σ : Hp) : Ev (d + 2) 2 [pvR 0 0 32] (false, 33, e, σ) (0, none, false, 62, e, k_D_new_32 σ) := by
  refine Ev.of mtE2 rfl rfl rfl rfl ?_
  show Go none (Ev (d + 1)) mt2 0 [some (pvR 0 0 32), none] [] (false, 33, e, σ) (0, none, false, 62, e, k_D_new_32 σ)
  refine go_aload_n (pc' := 1) dX0_init_0 rfl rfl (Nat.le_of_ble_eq_true rfl) ?_
  refine go_obj (pc' := 4) dX0_init_1 rfl rm_0_3 (Nat.le_of_ble_eq_true rfl) ?_
  refine go_aload_n (pc' := 5) dX0_init_4 rfl rfl (Nat.le_of_ble_eq_true rfl) ?_
  refine go_iconst (pc' := 6) dX0_init_5 rfl (r32_c rfl) ?_
  refine go_putI (pc' := 9) dX0_init_6 rfl rf_0_9 rfl ?_
  refine go_aload_n (pc' := 10) dX0_init_9 rfl rfl (Nat.le_of_ble_eq_true rfl) ?_
  refine go_new (k := 5) dX0_init_10 rfl (by decide) (by decide +kernel) rfl rfl (by decide) ?_
  refine go_dup (pc' := 14) dX0_init_13 rfl (Nat.ne_of_beq_eq_false rfl) ?_
  refine go_call (kc := 3) (Mc := mt3) (v := none) (pc' := 17) [pvR 5 0 33] [pvR 5 0 33, pvR 0 0 32] (Or.inr (Or.inr (Or.inr (Or.inr rfl)))) dX0_init_14 rfl rm_0_17 mtE3 rfl rfl rfl (Nat.le_of_ble_eq_true rfl) (Or.inr ⟨_, _, 33, rfl, Or.inl rfl⟩) (l_MV_new_33 (d + 0) e _) rfl ?_
  refine go_putR (P' := 33) (pc' := 20) dX0_init_17 rfl rf_0_18 rfl rfl rfl ⟨rfl, rfl⟩ ?_
  refine go_aload_n (pc' := 21) dX0_init_20 rfl rfl (Nat.le_of_ble_eq_true rfl) ?_
  refine go_bipush (pc' := 23) dX0_init_21 rfl (r32_c rfl) (by decide) ?_
  refine go_newarr (k := 12) (L0 := 12) dX0_init_23 rfl (by decide) rfl rfl rfl (by decide) rfl ?_
  refine go_putR (P' := 37) (pc' := 28) dX0_init_25 rfl rf_0_22 rfl rfl rfl ⟨rfl, rfl⟩ ?_
  refine go_aload_n (pc' := 29) dX0_init_28 rfl rfl (Nat.le_of_ble_eq_true rfl) ?_
  refine go_bipush (pc' := 31) dX0_init_29 rfl (r32_c rfl) (by decide) ?_
  refine go_newarr (k := 12) (L0 := 12) dX0_init_31 rfl (by decide) rfl rfl rfl (by decide) rfl ?_
  refine go_putR (P' := 38) (pc' := 36) dX0_init_33 rfl rf_0_26 rfl rfl rfl ⟨rfl, rfl⟩ ?_
  refine go_aload_n (pc' := 37) dX0_init_36 rfl rfl (Nat.le_of_ble_eq_true rfl) ?_
  refine go_bipush (pc' := 39) dX0_init_37 rfl (r32_c rfl) (by decide) ?_
  refine go_newarr (k := 12) (L0 := 12) dX0_init_39 rfl (by decide) rfl rfl rfl (by decide) rfl ?_
  refine go_putR (P' := 39) (pc' := 44) dX0_init_41 rfl rf_0_29 rfl rfl rfl ⟨rfl, rfl⟩ ?_
  refine go_aload_n (pc' := 45) dX0_init_44 rfl rfl (Nat.le_of_ble_eq_true rfl) ?_
  refine go_bipush (pc' := 47) dX0_init_45 rfl (r32_c rfl) (by decide) ?_
  refine go_newarr (k := 12) (L0 := 12) dX0_init_47 rfl (by decide) rfl rfl rfl (by decide) rfl ?_
  refine go_putR (P' := 40) (pc' := 52) dX0_init_49 rfl rf_0_32 rfl rfl rfl ⟨rfl, rfl⟩ ?_
  refine go_aload_n (pc' := 53) dX0_init_52 rfl rfl (Nat.le_of_ble_eq_true rfl) ?_
  refine go_bipush (pc' := 55) dX0_init_53 rfl (r32_c rfl) (by decide) ?_
  refine go_newarr (k := 12) (L0 := 12) dX0_init_55 rfl (by decide) rfl rfl rfl (by decide) rfl ?_
  refine go_putR (P' := 41) (pc' := 60) dX0_init_57 rfl rf_0_35 rfl rfl rfl ⟨rfl, rfl⟩ ?_
  refine go_aload_n (pc' := 61) dX0_init_60 rfl rfl (Nat.le_of_ble_eq_true rfl) ?_
  refine go_bipush (pc' := 63) dX0_init_61 rfl (r32_c rfl) (by decide) ?_
  refine go_newarr (k := 14) (L0 := 12) dX0_init_63 rfl (by decide) rfl rfl rfl (by decide) rfl ?_
  refine go_putR (P' := 42) (pc' := 68) dX0_init_65 rfl rf_0_38 rfl rfl rfl ⟨rfl, rfl⟩ ?_
  refine go_aload_n (pc' := 69) dX0_init_68 rfl rfl (Nat.le_of_ble_eq_true rfl) ?_
  refine go_bipush (pc' := 71) dX0_init_69 rfl (r32_c rfl) (by decide) ?_
  refine go_anew dX0_init_71 rfl (by decide) rfl (by decide +kernel) rfl rfl ?_
  refine go_putR (P' := 43) (pc' := 77) dX0_init_74 rfl rf_0_44 rfl rfl rfl ⟨rfl, rfl⟩ ?_
  refine go_aload_n (pc' := 78) dX0_init_77 rfl rfl (Nat.le_of_ble_eq_true rfl) ?_
  refine go_bipush (pc' := 80) dX0_init_78 rfl (r32_c rfl) (by decide) ?_
  refine go_newarr (k := 12) (L0 := 12) dX0_init_80 rfl (by decide) rfl rfl rfl (by decide) rfl ?_
  refine go_putR (P' := 44) (pc' := 85) dX0_init_82 rfl rf_0_48 rfl rfl rfl ⟨rfl, rfl⟩ ?_
  refine go_aload_n (pc' := 86) dX0_init_85 rfl rfl (Nat.le_of_ble_eq_true rfl) ?_
  refine go_bipush (pc' := 88) dX0_init_86 rfl (r32_c rfl) (by decide) ?_
  refine go_newarr (k := 12) (L0 := 12) dX0_init_88 rfl (by decide) rfl rfl rfl (by decide) rfl ?_
  refine go_putR (P' := 45) (pc' := 93) dX0_init_90 rfl rf_0_51 rfl rfl rfl ⟨rfl, rfl⟩ ?_
  refine go_aload_n (pc' := 94) dX0_init_93 rfl rfl (Nat.le_of_ble_eq_true rfl) ?_
  refine go_bipush (pc' := 96) dX0_init_94 rfl (r32_c rfl) (by decide) ?_
  refine go_newarr (k := 12) (L0 := 12) dX0_init_96 rfl (by decide) rfl rfl rfl (by decide) rfl ?_
  refine go_putR (P' := 46) (pc' := 101) dX0_init_98 rfl rf_0_54 rfl rfl rfl ⟨rfl, rfl⟩ ?_
  refine go_aload_n (pc' := 102) dX0_init_101 rfl rfl (Nat.le_of_ble_eq_true rfl) ?_
  refine go_bipush (pc' := 104) dX0_init_102 rfl (r32_c rfl) (by decide) ?_
  refine go_newarr (k := 14) (L0 := 12) dX0_init_104 rfl (by decide) rfl rfl rfl (by decide) rfl ?_
  refine go_putR (P' := 47) (pc' := 109) dX0_init_106 rfl rf_0_57 rfl rfl rfl ⟨rfl, rfl⟩ ?_
  refine go_aload_n (pc' := 110) dX0_init_109 rfl rfl (Nat.le_of_ble_eq_true rfl) ?_
  refine go_bipush (pc' := 112) dX0_init_110 rfl (r32_c rfl) (by decide) ?_
  refine go_sipush (pc' := 115) dX0_init_112 rfl (r32_c rfl) (by decide) ?_
  refine go_multi dX0_init_115 rfl rfl (by decide) rfl rfl (by decide) ?_
  refine go_putR (P' := 48) (pc' := 122) dX0_init_119 rfl rf_0_62 rfl rfl rfl ⟨rfl, rfl⟩ ?_
  refine go_aload_n (pc' := 123) dX0_init_122 rfl rfl (Nat.le_of_ble_eq_true rfl) ?_
  refine go_getRC (k' := 12) (L0 := 12) (P' := 45) (pc' := 126) dX0_init_123 rfl rf_0_51 rfl rfl rfl rfl ?_
  refine go_iconst (pc' := 127) dX0_init_126 rfl (r32_c rfl) ?_
  refine go_iconst (pc' := 128) dX0_init_127 rfl (r32_c rfl) ?_
  refine go_iast (pc' := 129) dX0_init_128 rfl (by decide) ?_
  refine go_aload_n (pc' := 130) dX0_init_129 rfl rfl (Nat.le_of_ble_eq_true rfl) ?_
  refine go_getRC (k' := 14) (L0 := 12) (P' := 47) (pc' := 133) dX0_init_130 rfl rf_0_57 rfl rfl rfl rfl ?_
  refine go_iconst (pc' := 134) dX0_init_133 rfl (r32_c rfl) ?_
  refine go_iconst (pc' := 135) dX0_init_134 rfl (r32_c rfl) ?_
  refine go_zast (pc' := 136) dX0_init_135 rfl (by decide) (by decide) ?_
  refine go_iconst (pc' := 137) dX0_init_136 rfl (r32_c rfl) ?_
  refine go_istore_n (L' := [some (pvR 0 0 32), some (pvI 0)]) (pc' := 138) dX0_init_137 rfl (Nat.le_of_ble_eq_true rfl) rfl ?_
  refine go_iload_n (pc' := 139) dX0_init_138 rfl rfl ?_
  refine go_bipush (pc' := 141) dX0_init_139 rfl (r32_c rfl) (by decide) ?_
  refine go_icmp_gt (t := 159) (pc' := 144) dX0_init_141 rfl rfl (fun c => absurd c (by decide)) (fun _ => ?_)
  refine go_aload_n (pc' := 145) dX0_init_144 rfl rfl (Nat.le_of_ble_eq_true rfl) ?_
  refine go_getRC (k' := 16) (L0 := 13) (P' := 48) (pc' := 148) dX0_init_145 rfl rf_0_62 rfl rfl rfl rfl ?_
  refine go_iload_n (pc' := 149) dX0_init_148 rfl rfl ?_
  refine go_rald (pc' := 150) dX0_init_149 rfl (by decide) ?_
  refine go_iconst (pc' := 151) dX0_init_150 rfl (r32_c rfl) ?_
  refine go_iconst (pc' := 152) dX0_init_151 rfl (r32_c rfl) ?_
  refine go_iast (pc' := 153) dX0_init_152 rfl (by decide) ?_
  refine go_iinc (L' := [some (pvR 0 0 32), some (pvI 1)]) (pc' := 156) dX0_init_153 rfl rfl (r32_c rfl) rfl ?_
  refine go_goto (t := 138) dX0_init_156 rfl ?_
  refine go_iload_n (pc' := 139) dX0_init_138 rfl rfl ?_
  refine go_bipush (pc' := 141) dX0_init_139 rfl (r32_c rfl) (by decide) ?_
  refine go_icmp_gt (t := 159) (pc' := 144) dX0_init_141 rfl rfl (fun c => absurd c (by decide)) (fun _ => ?_)
  refine go_aload_n (pc' := 145) dX0_init_144 rfl rfl (Nat.le_of_ble_eq_true rfl) ?_
  refine go_getRC (k' := 16) (L0 := 13) (P' := 48) (pc' := 148) dX0_init_145 rfl rf_0_62 rfl rfl rfl rfl ?_
  refine go_iload_n (pc' := 149) dX0_init_148 rfl rfl ?_
  refine go_rald (pc' := 150) dX0_init_149 rfl (by decide) ?_
  refine go_iconst (pc' := 151) dX0_init_150 rfl (r32_c rfl) ?_
  refine go_iconst (pc' := 152) dX0_init_151 rfl (r32_c rfl) ?_
  refine go_iast (pc' := 153) dX0_init_152 rfl (by decide) ?_
  refine go_iinc (L' := [some (pvR 0 0 32), some (pvI 2)]) (pc' := 156) dX0_init_153 rfl rfl (r32_c rfl) rfl ?_
  refine go_goto (t := 138) dX0_init_156 rfl ?_
  refine go_iload_n (pc' := 139) dX0_init_138 rfl rfl ?_
  refine go_bipush (pc' := 141) dX0_init_139 rfl (r32_c rfl) (by decide) ?_
  refine go_icmp_gt (t := 159) (pc' := 144) dX0_init_141 rfl rfl (fun c => absurd c (by decide)) (fun _ => ?_)
  refine go_aload_n (pc' := 145) dX0_init_144 rfl rfl (Nat.le_of_ble_eq_true rfl) ?_
  refine go_getRC (k' := 16) (L0 := 13) (P' := 48) (pc' := 148) dX0_init_145 rfl rf_0_62 rfl rfl rfl rfl ?_
  refine go_iload_n (pc' := 149) dX0_init_148 rfl rfl ?_
  refine go_rald (pc' := 150) dX0_init_149 rfl (by decide) ?_
  refine go_iconst (pc' := 151) dX0_init_150 rfl (r32_c rfl) ?_
  refine go_iconst (pc' := 152) dX0_init_151 rfl (r32_c rfl) ?_
  refine go_iast (pc' := 153) dX0_init_152 rfl (by decide) ?_
  refine go_iinc (L' := [some (pvR 0 0 32), some (pvI 3)]) (pc' := 156) dX0_init_153 rfl rfl (r32_c rfl) rfl ?_
  refine go_goto (t := 138) dX0_init_156 rfl ?_
  refine go_iload_n (pc' := 139) dX0_init_138 rfl rfl ?_
  refine go_bipush (pc' := 141) dX0_init_139 rfl (r32_c rfl) (by decide) ?_
  refine go_icmp_gt (t := 159) (pc' := 144) dX0_init_141 rfl rfl (fun c => absurd c (by decide)) (fun _ => ?_)
  refine go_aload_n (pc' := 145) dX0_init_144 rfl rfl (Nat.le_of_ble_eq_true rfl) ?_
  refine go_getRC (k' := 16) (L0 := 13) (P' := 48) (pc' := 148) dX0_init_145 rfl rf_0_62 rfl rfl rfl rfl ?_
  refine go_iload_n (pc' := 149) dX0_init_148 rfl rfl ?_
  refine go_rald (pc' := 150) dX0_init_149 rfl (by decide) ?_
  refine go_iconst (pc' := 151) dX0_init_150 rfl (r32_c rfl) ?_
  refine go_iconst (pc' := 152) dX0_init_151 rfl (r32_c rfl) ?_
  refine go_iast (pc' := 153) dX0_init_152 rfl (by decide) ?_
  refine go_iinc (L' := [some (pvR 0 0 32), some (pvI 4)]) (pc' := 156) dX0_init_153 rfl rfl (r32_c rfl) rfl ?_
  refine go_goto (t := 138) dX0_init_156 rfl ?_
  refine go_iload_n (pc' := 139) dX0_init_138 rfl rfl ?_
  refine go_bipush (pc' := 141) dX0_init_139 rfl (r32_c rfl) (by decide) ?_
  refine go_icmp_gt (t := 159) (pc' := 144) dX0_init_141 rfl rfl (fun c => absurd c (by decide)) (fun _ => ?_)
  refine go_aload_n (pc' := 145) dX0_init_144 rfl rfl (Nat.le_of_ble_eq_true rfl) ?_
  refine go_getRC (k' := 16) (L0 := 13) (P' := 48) (pc' := 148) dX0_init_145 rfl rf_0_62 rfl rfl rfl rfl ?_
  refine go_iload_n (pc' := 149) dX0_init_148 rfl rfl ?_
  refine go_rald (pc' := 150) dX0_init_149 rfl (by decide) ?_
  refine go_iconst (pc' := 151) dX0_init_150 rfl (r32_c rfl) ?_
  refine go_iconst (pc' := 152) dX0_init_151 rfl (r32_c rfl) ?_
  refine go_iast (pc' := 153) dX0_init_152 rfl (by decide) ?_
  refine go_iinc (L' := [some (pvR 0 0 32), some (pvI 5)]) (pc' := 156) dX0_init_153 rfl rfl (r32_c rfl) rfl ?_
  refine go_goto (t := 138) dX0_init_156 rfl ?_
  refine go_iload_n (pc' := 139) dX0_init_138 rfl rfl ?_
  refine go_bipush (pc' := 141) dX0_init_139 rfl (r32_c rfl) (by decide) ?_
  refine go_icmp_gt (t := 159) (pc' := 144) dX0_init_141 rfl rfl (fun c => absurd c (by decide)) (fun _ => ?_)
  refine go_aload_n (pc' := 145) dX0_init_144 rfl rfl (Nat.le_of_ble_eq_true rfl) ?_
  refine go_getRC (k' := 16) (L0 := 13) (P' := 48) (pc' := 148) dX0_init_145 rfl rf_0_62 rfl rfl rfl rfl ?_
  refine go_iload_n (pc' := 149) dX0_init_148 rfl rfl ?_
  refine go_rald (pc' := 150) dX0_init_149 rfl (by decide) ?_
  refine go_iconst (pc' := 151) dX0_init_150 rfl (r32_c rfl) ?_
  refine go_iconst (pc' := 152) dX0_init_151 rfl (r32_c rfl) ?_
  refine go_iast (pc' := 153) dX0_init_152 rfl (by decide) ?_
  refine go_iinc (L' := [some (pvR 0 0 32), some (pvI 6)]) (pc' := 156) dX0_init_153 rfl rfl (r32_c rfl) rfl ?_
  refine go_goto (t := 138) dX0_init_156 rfl ?_
  refine go_iload_n (pc' := 139) dX0_init_138 rfl rfl ?_
  refine go_bipush (pc' := 141) dX0_init_139 rfl (r32_c rfl) (by decide) ?_
  refine go_icmp_gt (t := 159) (pc' := 144) dX0_init_141 rfl rfl (fun c => absurd c (by decide)) (fun _ => ?_)
  refine go_aload_n (pc' := 145) dX0_init_144 rfl rfl (Nat.le_of_ble_eq_true rfl) ?_
  refine go_getRC (k' := 16) (L0 := 13) (P' := 48) (pc' := 148) dX0_init_145 rfl rf_0_62 rfl rfl rfl rfl ?_
  refine go_iload_n (pc' := 149) dX0_init_148 rfl rfl ?_
  refine go_rald (pc' := 150) dX0_init_149 rfl (by decide) ?_
  refine go_iconst (pc' := 151) dX0_init_150 rfl (r32_c rfl) ?_
  refine go_iconst (pc' := 152) dX0_init_151 rfl (r32_c rfl) ?_
  refine go_iast (pc' := 153) dX0_init_152 rfl (by decide) ?_
  refine go_iinc (L' := [some (pvR 0 0 32), some (pvI 7)]) (pc' := 156) dX0_init_153 rfl rfl (r32_c rfl) rfl ?_
  refine go_goto (t := 138) dX0_init_156 rfl ?_
  refine go_iload_n (pc' := 139) dX0_init_138 rfl rfl ?_
  refine go_bipush (pc' := 141) dX0_init_139 rfl (r32_c rfl) (by decide) ?_
  refine go_icmp_gt (t := 159) (pc' := 144) dX0_init_141 rfl rfl (fun c => absurd c (by decide)) (fun _ => ?_)
  refine go_aload_n (pc' := 145) dX0_init_144 rfl rfl (Nat.le_of_ble_eq_true rfl) ?_
  refine go_getRC (k' := 16) (L0 := 13) (P' := 48) (pc' := 148) dX0_init_145 rfl rf_0_62 rfl rfl rfl rfl ?_
  refine go_iload_n (pc' := 149) dX0_init_148 rfl rfl ?_
  refine go_rald (pc' := 150) dX0_init_149 rfl (by decide) ?_
  refine go_iconst (pc' := 151) dX0_init_150 rfl (r32_c rfl) ?_
  refine go_iconst (pc' := 152) dX0_init_151 rfl (r32_c rfl) ?_
  refine go_iast (pc' := 153) dX0_init_152 rfl (by decide) ?_
  refine go_iinc (L' := [some (pvR 0 0 32), some (pvI 8)]) (pc' := 156) dX0_init_153 rfl rfl (r32_c rfl) rfl ?_
  refine go_goto (t := 138) dX0_init_156 rfl ?_
  refine go_iload_n (pc' := 139) dX0_init_138 rfl rfl ?_
  refine go_bipush (pc' := 141) dX0_init_139 rfl (r32_c rfl) (by decide) ?_
  refine go_icmp_gt (t := 159) (pc' := 144) dX0_init_141 rfl rfl (fun c => absurd c (by decide)) (fun _ => ?_)
  refine go_aload_n (pc' := 145) dX0_init_144 rfl rfl (Nat.le_of_ble_eq_true rfl) ?_
  refine go_getRC (k' := 16) (L0 := 13) (P' := 48) (pc' := 148) dX0_init_145 rfl rf_0_62 rfl rfl rfl rfl ?_
  refine go_iload_n (pc' := 149) dX0_init_148 rfl rfl ?_
  refine go_rald (pc' := 150) dX0_init_149 rfl (by decide) ?_
  refine go_iconst (pc' := 151) dX0_init_150 rfl (r32_c rfl) ?_
  refine go_iconst (pc' := 152) dX0_init_151 rfl (r32_c rfl) ?_
  refine go_iast (pc' := 153) dX0_init_152 rfl (by decide) ?_
  refine go_iinc (L' := [some (pvR 0 0 32), some (pvI 9)]) (pc' := 156) dX0_init_153 rfl rfl (r32_c rfl) rfl ?_
  refine go_goto (t := 138) dX0_init_156 rfl ?_
  refine go_iload_n (pc' := 139) dX0_init_138 rfl rfl ?_
  refine go_bipush (pc' := 141) dX0_init_139 rfl (r32_c rfl) (by decide) ?_
  refine go_icmp_gt (t := 159) (pc' := 144) dX0_init_141 rfl rfl (fun c => absurd c (by decide)) (fun _ => ?_)
  refine go_aload_n (pc' := 145) dX0_init_144 rfl rfl (Nat.le_of_ble_eq_true rfl) ?_
  refine go_getRC (k' := 16) (L0 := 13) (P' := 48) (pc' := 148) dX0_init_145 rfl rf_0_62 rfl rfl rfl rfl ?_
  refine go_iload_n (pc' := 149) dX0_init_148 rfl rfl ?_
  refine go_rald (pc' := 150) dX0_init_149 rfl (by decide) ?_
  refine go_iconst (pc' := 151) dX0_init_150 rfl (r32_c rfl) ?_
  refine go_iconst (pc' := 152) dX0_init_151 rfl (r32_c rfl) ?_
  refine go_iast (pc' := 153) dX0_init_152 rfl (by decide) ?_
  refine go_iinc (L' := [some (pvR 0 0 32), some (pvI 10)]) (pc' := 156) dX0_init_153 rfl rfl (r32_c rfl) rfl ?_
  refine go_goto (t := 138) dX0_init_156 rfl ?_
  refine go_iload_n (pc' := 139) dX0_init_138 rfl rfl ?_
  refine go_bipush (pc' := 141) dX0_init_139 rfl (r32_c rfl) (by decide) ?_
  refine go_icmp_gt (t := 159) (pc' := 144) dX0_init_141 rfl rfl (fun c => absurd c (by decide)) (fun _ => ?_)
  refine go_aload_n (pc' := 145) dX0_init_144 rfl rfl (Nat.le_of_ble_eq_true rfl) ?_
  refine go_getRC (k' := 16) (L0 := 13) (P' := 48) (pc' := 148) dX0_init_145 rfl rf_0_62 rfl rfl rfl rfl ?_
  refine go_iload_n (pc' := 149) dX0_init_148 rfl rfl ?_
  refine go_rald (pc' := 150) dX0_init_149 rfl (by decide) ?_
  refine go_iconst (pc' := 151) dX0_init_150 rfl (r32_c rfl) ?_
  refine go_iconst (pc' := 152) dX0_init_151 rfl (r32_c rfl) ?_
  refine go_iast (pc' := 153) dX0_init_152 rfl (by decide) ?_
  refine go_iinc (L' := [some (pvR 0 0 32), some (pvI 11)]) (pc' := 156) dX0_init_153 rfl rfl (r32_c rfl) rfl ?_
  refine go_goto (t := 138) dX0_init_156 rfl ?_
  refine go_iload_n (pc' := 139) dX0_init_138 rfl rfl ?_
  refine go_bipush (pc' := 141) dX0_init_139 rfl (r32_c rfl) (by decide) ?_
  refine go_icmp_gt (t := 159) (pc' := 144) dX0_init_141 rfl rfl (fun c => absurd c (by decide)) (fun _ => ?_)
  refine go_aload_n (pc' := 145) dX0_init_144 rfl rfl (Nat.le_of_ble_eq_true rfl) ?_
  refine go_getRC (k' := 16) (L0 := 13) (P' := 48) (pc' := 148) dX0_init_145 rfl rf_0_62 rfl rfl rfl rfl ?_
  refine go_iload_n (pc' := 149) dX0_init_148 rfl rfl ?_
  refine go_rald (pc' := 150) dX0_init_149 rfl (by decide) ?_
  refine go_iconst (pc' := 151) dX0_init_150 rfl (r32_c rfl) ?_
  refine go_iconst (pc' := 152) dX0_init_151 rfl (r32_c rfl) ?_
  refine go_iast (pc' := 153) dX0_init_152 rfl (by decide) ?_
  refine go_iinc (L' := [some (pvR 0 0 32), some (pvI 12)]) (pc' := 156) dX0_init_153 rfl rfl (r32_c rfl) rfl ?_
  refine go_goto (t := 138) dX0_init_156 rfl ?_
  refine go_iload_n (pc' := 139) dX0_init_138 rfl rfl ?_
  refine go_bipush (pc' := 141) dX0_init_139 rfl (r32_c rfl) (by decide) ?_
  refine go_icmp_gt (t := 159) (pc' := 144) dX0_init_141 rfl rfl (fun c => absurd c (by decide)) (fun _ => ?_)
  refine go_aload_n (pc' := 145) dX0_init_144 rfl rfl (Nat.le_of_ble_eq_true rfl) ?_
  refine go_getRC (k' := 16) (L0 := 13) (P' := 48) (pc' := 148) dX0_init_145 rfl rf_0_62 rfl rfl rfl rfl ?_
  refine go_iload_n (pc' := 149) dX0_init_148 rfl rfl ?_
  refine go_rald (pc' := 150) dX0_init_149 rfl (by decide) ?_
  refine go_iconst (pc' := 151) dX0_init_150 rfl (r32_c rfl) ?_
  refine go_iconst (pc' := 152) dX0_init_151 rfl (r32_c rfl) ?_
  refine go_iast (pc' := 153) dX0_init_152 rfl (by decide) ?_
  refine go_iinc (L' := [some (pvR 0 0 32), some (pvI 13)]) (pc' := 156) dX0_init_153 rfl rfl (r32_c rfl) rfl ?_
  refine go_goto (t := 138) dX0_init_156 rfl ?_
  refine go_iload_n (pc' := 139) dX0_init_138 rfl rfl ?_
  refine go_bipush (pc' := 141) dX0_init_139 rfl (r32_c rfl) (by decide) ?_
  refine go_icmp_gt (t := 159) (pc' := 144) dX0_init_141 rfl rfl (fun _ => ?_) (fun c => absurd (by decide) c)
  exact go_vret dX0_init_159 rfl rfl

def k_MV_new_63 (σ : Hp) : Hp := (hset (zNew (hset (zNew (hset (zNew σ 64) 63 1 64) 65) 63 2 65) 66) 63 3 66)
set_option maxRecDepth 10000 in
theorem l_MV_new_63 (d e : Nat) (σ : Hp) : Ev (d + 1) 3 [pvR 5 0 63] (false, 64, e, σ) (0, none, false, 67, e, k_MV_new_63 σ) := by
  refine Ev.of mtE3 rfl rfl rfl rfl ?_
  show Go none (Ev (d + 0)) mt3 0 [some (pvR 5 0 63)] [] (false, 64, e, σ) (0, none, false, 67, e, k_MV_new_63 σ)
  refine go_aload_n (pc' := 1) dX5_init_0 rfl rfl (Nat.le_of_ble_eq_true rfl) ?_
  refine go_obj (pc' := 4) dX5_init_1 rfl rm_5_3 (Nat.le_of_ble_eq_true rfl) ?_
  refine go_aload_n (pc' := 5) dX5_init_4 rfl rfl (Nat.le_of_ble_eq_true rfl) ?_
  refine go_bipush (pc' := 7) dX5_init_5 rfl (r32_c rfl) (by decide) ?_
  refine go_newarr (k := 12) (L0 := 10) dX5_init_7 rfl (by decide) rfl rfl rfl (by decide) rfl ?_
  refine go_putR (P' := 64) (pc' := 12) dX5_init_9 rfl rf_5_9 rfl rfl rfl ⟨rfl, rfl⟩ ?_
  refine go_aload_n (pc' := 13) dX5_init_12 rfl rfl (Nat.le_of_ble_eq_true rfl) ?_
  refine go_bipush (pc' := 15) dX5_init_13 rfl (r32_c rfl) (by decide) ?_
  refine go_newarr (k := 12) (L0 := 10) dX5_init_15 rfl (by decide) rfl rfl rfl (by decide) rfl ?_
  refine go_putR (P' := 65) (pc' := 20) dX5_init_17 rfl rf_5_15 rfl rfl rfl ⟨rfl, rfl⟩ ?_
  refine go_aload_n (pc' := 21) dX5_init_20 rfl rfl (Nat.le_of_ble_eq_true rfl) ?_
  refine go_bipush (pc' := 23) dX5_init_21 rfl (r32_c rfl) (by decide) ?_
  refine go_newarr (k := 12) (L0 := 10) dX5_init_23 rfl (by decide) rfl rfl rfl (by decide) rfl ?_
  refine go_putR (P' := 66) (pc' := 28) dX5_init_25 rfl rf_5_18 rfl rfl rfl ⟨rfl, rfl⟩ ?_
  exact go_vret dX5_init_28 rfl rfl

def k_D_new_62 (σ : Hp) : Hp := (hset (hset (hset (hset (hset (hset (hset (hset (hset (hset (hset (hset (hset (hset (hset (hset (zRows (hset (zNew (hset (zNew (hset (zNew (hset (zNew (hset (zNew (hset (zNew (hset (zNew (hset (zNew (hset (zNew (hset (zNew (hset (zNew (hset (k_MV_new_63 (zNew (hset σ 62 0 1) 63)) 62 3 63) 67) 62 4 67) 68) 62 5 68) 69) 62 6 69) 70) 62 7 70) 71) 62 8 71) 72) 62 9 72) 73) 62 10 73) 74) 62 11 74) 75) 62 12 75) 76) 62 13 76) 77) 62 14 77) 78) 62 15 78) 75 0 (-1)) 77 0 1) 79 0 1) 80 0 1) 81 0 1) 82 0 1) 83 0 1) 84 0 1) 85 0 1) 86 0 1) 87 0 1) 88 0 1) 89 0 1) 90 0 1) 91 0 1)
set_option maxRecDepth 10000 in
theorem l_D_new_62 (d e : Nat) (σ : Hp) : Ev (d + 2) 2 [pvR 0 0 62] (false, 63, e, σ) (0, none, false, 92, e, k_D_new_62 σ) := by
  refine Ev.of mtE2 rfl rfl rfl rfl ?_
  show Go none (Ev (d + 1)) mt2 0 [some (pvR 0 0 62), none] [] (false, 63, e, σ) (0, none, false, 92, e, k_D_new_62 σ)
  refine go_aload_n (pc' := 1) dX0_init_0 rfl rfl (Nat.le_of_ble_eq_true rfl) ?_
  refine go_obj (pc' := 4) dX0_init_1 rfl rm_0_3 (Nat.le_of_ble_eq_true rfl) ?_
  refine go_aload_n (pc' := 5) dX0_init_4 rfl rfl (Nat.le_of_ble_eq_true rfl) ?_
  refine go_iconst (pc' := 6) dX0_init_5 rfl (r32_c rfl) ?_
  refine go_putI (pc' := 9) dX0_init_6 rfl rf_0_9 rfl ?_
  refine go_aload_n (pc' := 10) dX0_init_9 rfl rfl (Nat.le_of_ble_eq_true rfl) ?_
  refine go_new (k := 5) dX0_init_10 rfl (by decide) (by decide +kernel) rfl rfl (by decide) ?_
  refine go_dup (pc' := 14) dX0_init_13 rfl (Nat.ne_of_beq_eq_false rfl) ?_
  refine go_call (kc := 3) (Mc := mt3) (v := none) (pc' := 17) [pvR 5 0 63] [pvR 5 0 63, pvR 0 0 62] (Or.inr (Or.inr (Or.inr (Or.inr rfl)))) dX0_init_14 rfl rm_0_17 mtE3 rfl rfl rfl (Nat.le_of_ble_eq_true rfl) (Or.inr ⟨_, _, 63, rfl, Or.inl rfl⟩) (l_MV_new_63 (d + 0) e _) rfl ?_
  refine go_putR (P' := 63) (pc' := 20) dX0_init_17 rfl rf_0_18 rfl rfl rfl ⟨rfl, rfl⟩ ?_
  refine go_aload_n (pc' := 21) dX0_init_20 rfl rfl (Nat.le_of_ble_eq_true rfl) ?_
  refine go_bipush (pc' := 23) dX0_init_21 rfl (r32_c rfl) (by decide) ?_
  refine go_newarr (k := 12) (L0 := 12) dX0_init_23 rfl (by decide) rfl rfl rfl (by decide) rfl ?_
  refine go_putR (P' := 67) (pc' := 28) dX0_init_25 rfl rf_0_22 rfl rfl rfl ⟨rfl, rfl⟩ ?_
  refine go_aload_n (pc' := 29) dX0_init_28 rfl rfl (Nat.le_of_ble_eq_true rfl) ?_
  refine go_bipush (pc' := 31) dX0_init_29 rfl (r32_c rfl) (by decide) ?_
  refine go_newarr (k := 12) (L0 := 12) dX0_init_31 rfl (by decide) rfl rfl rfl (by decide) rfl ?_
  refine go_putR (P' := 68) (pc' := 36) dX0_init_33 rfl rf_0_26 rfl rfl rfl ⟨rfl, rfl⟩ ?_
  refine go_aload_n (pc' := 37) dX0_init_36 rfl rfl (Nat.le_of_ble_eq_true rfl) ?_
  refine go_bipush (pc' := 39) dX0_init_37 rfl (r32_c rfl) (by decide) ?_
  refine go_newarr (k := 12) (L0 := 12) dX0_init_39 rfl (by decide) rfl rfl rfl (by decide) rfl ?_
  refine go_putR (P' := 69) (pc' := 44) dX0_init_41 rfl rf_0_29 rfl rfl rfl ⟨rfl, rfl⟩ ?_
  refine go_aload_n (pc' := 45) dX0_init_44 rfl rfl (Nat.le_of_ble_eq_true rfl) ?_
  refine go_bipush (pc' := 47) dX0_init_45 rfl (r32_c rfl) (by decide) ?_
  refine go_newarr (k := 12) (L0 := 12) dX0_init_47 rfl (by decide) rfl rfl rfl (by decide) rfl ?_
  refine go_putR (P' := 70) (pc' := 52) dX0_init_49 rfl rf_0_32 rfl rfl rfl ⟨rfl, rfl⟩ ?_
  refine go_aload_n (pc' := 53) dX0_init_52 rfl rfl (Nat.le_of_ble_eq_true rfl) ?_
  refine go_bipush (pc' := 55) dX0_init_53 rfl (r32_c rfl) (by decide) ?_
  refine go_newarr (k := 12) (L0 := 12) dX0_init_55 rfl (by decide) rfl rfl rfl (by decide) rfl ?_
  refine go_putR (P' := 71) (pc' := 60) dX0_init_57 rfl rf_0_35 rfl rfl rfl ⟨rfl, rfl⟩ ?_
  refine go_aload_n (pc' := 61) dX0_init_60 rfl rfl (Nat.le_of_ble_eq_true rfl) ?_
  refine go_bipush (pc' := 63) dX0_init_61 rfl (r32_c rfl) (by decide) ?_
  refine go_newarr (k := 14) (L0 := 12) dX0_init_63 rfl (by decide) rfl rfl rfl (by decide) rfl ?_
  refine go_putR (P' := 72) (pc' := 68) dX0_init_65 rfl rf_0_38 rfl rfl rfl ⟨rfl, rfl⟩ ?_
  refine go_aload_n (pc' := 69) dX0_init_68 rfl rfl (Nat.le_of_ble_eq_true rfl) ?_
  refine go_bipush (pc' := 71) dX0_init_69 rfl (r32_c rfl) (by decide) ?_
  refine go_anew dX0_init_71 rfl (by decide) rfl (by decide +kernel) rfl rfl ?_
  refine go_putR (P' := 73) (pc' := 77) dX0_init_74 rfl rf_0_44 rfl rfl rfl ⟨rfl, rfl⟩ ?_
  refine go_aload_n (pc' := 78) dX0_init_77 rfl rfl (Nat.le_of_ble_eq_true rfl) ?_
  refine go_bipush (pc' := 80) dX0_init_78 rfl (r32_c rfl) (by decide) ?_
  refine go_newarr (k := 12) (L0 := 12) dX0_init_80 rfl (by decide) rfl rfl rfl (by decide) rfl ?_
  refine go_putR (P' := 74) (pc' := 85) dX0_init_82 rfl rf_0_48 rfl rfl rfl ⟨rfl, rfl⟩ ?_
  refine go_aload_n (pc' := 86) dX0_init_85 rfl rfl (Nat.le_of_ble_eq_true rfl) ?_
  refine go_bipush (pc' := 88) dX0_init_86 rfl (r32_c rfl) (by decide) ?_
  refine go_newarr (k := 12) (L0 := 12) dX0_init_88 rfl (by decide) rfl rfl rfl (by decide) rfl ?_
  refine go_putR (P' := 75) (pc' := 93) dX0_init_90 rfl rf_0_51 rfl rfl rfl ⟨rfl, rfl⟩ ?_
  refine go_aload_n (pc' := 94) dX0_init_93 rfl rfl (Nat.le_of_ble_eq_true rfl) ?_
  refine go_bipush (pc' := 96) dX0_init_94 rfl (r32_c rfl) (by decide) ?_
  refine go_newarr (k := 12) (L0 := 12) dX0_init_96 rfl (by decide) rfl rfl rfl (by decide) rfl ?_
  refine go_putR (P' := 76) (pc' := 101) dX0_init_98 rfl rf_0_54 rfl rfl rfl ⟨rfl, rfl⟩ ?_
  refine go_aload_n (pc' := 102) dX0_init_101 rfl rfl (Nat.le_of_ble_eq_true rfl) ?_
  refine go_bipush (pc' := 104) dX0_init_102 rfl (r32_c rfl) (by decide) ?_
  refine go_newarr (k := 14) (L0 := 12) dX0_init_104 rfl (by decide) rfl rfl rfl (by decide) rfl ?_
  refine go_putR (P' := 77) (pc' := 109) dX0_init_106 rfl rf_0_57 rfl rfl rfl ⟨rfl, rfl⟩ ?_
  refine go_aload_n (pc' := 110) dX0_init_109 rfl rfl (Nat.le_of_ble_eq_true rfl) ?_
  refine go_bipush (pc' := 112) dX0_init_110 rfl (r32_c rfl) (by decide) ?_
  refine go_sipush (pc' := 115) dX0_init_112 rfl (r32_c rfl) (by decide) ?_
  refine go_multi dX0_init_115 rfl rfl (by decide) rfl rfl (by decide) ?_
  refine go_putR (P' := 78) (pc' := 122) dX0_init_119 rfl rf_0_62 rfl rfl rfl ⟨rfl, rfl⟩ ?_
  refine go_aload_n (pc' := 123) dX0_init_122 rfl rfl (Nat.le_of_ble_eq_true rfl) ?_
  refine go_getRC (k' := 12) (L0 := 12) (P' := 75) (pc' := 126) dX0_init_123 rfl rf_0_51 rfl rfl rfl rfl ?_
  refine go_iconst (pc' := 127) dX0_init_126 rfl (r32_c rfl) ?_
  refine go_iconst (pc' := 128) dX0_init_127 rfl (r32_c rfl) ?_
  refine go_iast (pc' := 129) dX0_init_128 rfl (by decide) ?_
  refine go_aload_n (pc' := 130) dX0_init_129 rfl rfl (Nat.le_of_ble_eq_true rfl) ?_
  refine go_getRC (k' := 14) (L0 := 12) (P' := 77) (pc' := 133) dX0_init_130 rfl rf_0_57 rfl rfl rfl rfl ?_
  refine go_iconst (pc' := 134) dX0_init_133 rfl (r32_c rfl) ?_
  refine go_iconst (pc' := 135) dX0_init_134 rfl (r32_c rfl) ?_
  refine go_zast (pc' := 136) dX0_init_135 rfl (by decide) (by decide) ?_
  refine go_iconst (pc' := 137) dX0_init_136 rfl (r32_c rfl) ?_
  refine go_istore_n (L' := [some (pvR 0 0 62), some (pvI 0)]) (pc' := 138) dX0_init_137 rfl (Nat.le_of_ble_eq_true rfl) rfl ?_
  refine go_iload_n (pc' := 139) dX0_init_138 rfl rfl ?_
  refine go_bipush (pc' := 141) dX0_init_139 rfl (r32_c rfl) (by decide) ?_
  refine go_icmp_gt (t := 159) (pc' := 144) dX0_init_141 rfl rfl (fun c => absurd c (by decide)) (fun _ => ?_)
  refine go_aload_n (pc' := 145) dX0_init_144 rfl rfl (Nat.le_of_ble_eq_true rfl) ?_
  refine go_getRC (k' := 16) (L0 := 13) (P' := 78) (pc' := 148) dX0_init_145 rfl rf_0_62 rfl rfl rfl rfl ?_
  refine go_iload_n (pc' := 149) dX0_init_148 rfl rfl ?_
  refine go_rald (pc' := 150) dX0_init_149 rfl (by decide) ?_
  refine go_iconst (pc' := 151) dX0_init_150 rfl (r32_c rfl) ?_
  refine go_iconst (pc' := 152) dX0_init_151 rfl (r32_c rfl) ?_
  refine go_iast (pc' := 153) dX0_init_152 rfl (by decide) ?_
  refine go_iinc (L' := [some (pvR 0 0 62), some (pvI 1)]) (pc' := 156) dX0_init_153 rfl rfl (r32_c rfl) rfl ?_
  refine go_goto (t := 138) dX0_init_156 rfl ?_
  refine go_iload_n (pc' := 139) dX0_init_138 rfl rfl ?_
  refine go_bipush (pc' := 141) dX0_init_139 rfl (r32_c rfl) (by decide) ?_
  refine go_icmp_gt (t := 159) (pc' := 144) dX0_init_141 rfl rfl (fun c => absurd c (by decide)) (fun _ => ?_)
  refine go_aload_n (pc' := 145) dX0_init_144 rfl rfl (Nat.le_of_ble_eq_true rfl) ?_
  refine go_getRC (k' := 16) (L0 := 13) (P' := 78) (pc' := 148) dX0_init_145 rfl rf_0_62 rfl rfl rfl rfl ?_
  refine go_iload_n (pc' := 149) dX0_init_148 rfl rfl ?_
  refine go_rald (pc' := 150) dX0_init_149 rfl (by decide) ?_
  refine go_iconst (pc' := 151) dX0_init_150 rfl (r32_c rfl) ?_
  refine go_iconst (pc' := 152) dX0_init_151 rfl (r32_c rfl) ?_
  refine go_iast (pc' := 153) dX0_init_152 rfl (by decide) ?_
  refine go_iinc (L' := [some (pvR 0 0 62), some (pvI 2)]) (pc' := 156) dX0_init_153 rfl rfl (r32_c rfl) rfl ?_
  refine go_goto (t := 138) dX0_init_156 rfl ?_
  refine go_iload_n (pc' := 139) dX0_init_138 rfl rfl ?_
  refine go_bipush (pc' := 141) dX0_init_139 rfl (r32_c rfl) (by decide) ?_
  refine go_icmp_gt (t := 159) (pc' := 144) dX0_init_141 rfl rfl (fun c => absurd c (by decide)) (fun _ => ?_)
  refine go_aload_n (pc' := 145) dX0_init_144 rfl rfl (Nat.le_of_ble_eq_true rfl) ?_
  refine go_getRC (k' := 16) (L0 := 13) (P' := 78) (pc' := 148) dX0_init_145 rfl rf_0_62 rfl rfl rfl rfl ?_
  refine go_iload_n (pc' := 149) dX0_init_148 rfl rfl ?_
  refine go_rald (pc' := 150) dX0_init_149 rfl (by decide) ?_
  refine go_iconst (pc' := 151) dX0_init_150 rfl (r32_c rfl) ?_
  refine go_iconst (pc' := 152) dX0_init_151 rfl (r32_c rfl) ?_
  refine go_iast (pc' := 153) dX0_init_152 rfl (by decide) ?_
  refine go_iinc (L' := [some (pvR 0 0 62), some (pvI 3)]) (pc' := 156) dX0_init_153 rfl rfl (r32_c rfl) rfl ?_
  refine go_goto (t := 138) dX0_init_156 rfl ?_
  refine go_iload_n (pc' := 139) dX0_init_138 rfl rfl ?_
  refine go_bipush (pc' := 141) dX0_init_139 rfl (r32_c rfl) (by decide) ?_
  refine go_icmp_gt (t := 159) (pc' := 144) dX0_init_141 rfl rfl (fun c => absurd c (by decide)) (fun _ => ?_)
  refine go_aload_n (pc' := 145) dX0_init_144 rfl rfl (Nat.le_of_ble_eq_true rfl) ?_
  refine go_getRC (k' := 16) (L0 := 13) (P' := 78) (pc' := 148) dX0_init_145 rfl rf_0_62 rfl rfl rfl rfl ?_
  refine go_iload_n (pc' := 149) dX0_init_148 rfl rfl ?_
  refine go_rald (pc' := 150) dX0_init_149 rfl (by decide) ?_
  refine go_iconst (pc' := 151) dX0_init_150 rfl (r32_c rfl) ?_
  refine go_iconst (pc' := 152) dX0_init_151 rfl (r32_c rfl) ?_
  refine go_iast (pc' := 153) dX0_init_152 rfl (by decide) ?_
  refine go_iinc (L' := [some (pvR 0 0 62), some (pvI 4)]) (pc' := 156) dX0_init_153 rfl rfl (r32_c rfl) rfl ?_
  refine go_goto (t := 138) dX0_init_156 rfl ?_
  refine go_iload_n (pc' := 139) dX0_init_138 rfl rfl ?_
  refine go_bipush (pc' := 141) dX0_init_139 rfl (r32_c rfl) (by decide) ?_
  refine go_icmp_gt (t := 159) (pc' := 144) dX0_init_141 rfl rfl (fun c => absurd c (by decide)) (fun _ => ?_)
  refine go_aload_n (pc' := 145) dX0_init_144 rfl rfl (Nat.le_of_ble_eq_true rfl) ?_
  refine go_getRC (k' := 16) (L0 := 13) (P' := 78) (pc' := 148) dX0_init_145 rfl rf_0_62 rfl rfl rfl rfl ?_
  refine go_iload_n (pc' := 149) dX0_init_148 rfl rfl ?_
  refine go_rald (pc' := 150) dX0_init_149 rfl (by decide) ?_
  refine go_iconst (pc' := 151) dX0_init_150 rfl (r32_c rfl) ?_
  refine go_iconst (pc' := 152) dX0_init_151 rfl (r32_c rfl) ?_
  refine go_iast (pc' := 153) dX0_init_152 rfl (by decide) ?_
  refine go_iinc (L' := [some (pvR 0 0 62), some (pvI 5)]) (pc' := 156) dX0_init_153 rfl rfl (r32_c rfl) rfl ?_
  refine go_goto (t := 138) dX0_init_156 rfl ?_
  refine go_iload_n (pc' := 139) dX0_init_138 rfl rfl ?_
  refine go_bipush (pc' := 141) dX0_init_139 rfl (r32_c rfl) (by decide) ?_
  refine go_icmp_gt (t := 159) (pc' := 144) dX0_init_141 rfl rfl (fun c => absurd c (by decide)) (fun _ => ?_)
  refine go_aload_n (pc' := 145) dX0_init_144 rfl rfl (Nat.le_of_ble_eq_true rfl) ?_
  refine go_getRC (k' := 16) (L0 := 13) (P' := 78) (pc' := 148) dX0_init_145 rfl rf_0_62 rfl rfl rfl rfl ?_
  refine go_iload_n (pc' := 149) dX0_init_148 rfl rfl ?_
  refine go_rald (pc' := 150) dX0_init_149 rfl (by decide) ?_
  refine go_iconst (pc' := 151) dX0_init_150 rfl (r32_c rfl) ?_
  refine go_iconst (pc' := 152) dX0_init_151 rfl (r32_c rfl) ?_
  refine go_iast (pc' := 153) dX0_init_152 rfl (by decide) ?_
  refine go_iinc (L' := [some (pvR 0 0 62), some (pvI 6)]) (pc' := 156) dX0_init_153 rfl rfl (r32_c rfl) rfl ?_
  refine go_goto (t := 138) dX0_init_156 rfl ?_
  refine go_iload_n (pc' := 139) dX0_init_138 rfl rfl ?_
  refine go_bipush (pc' := 141) dX0_init_139 rfl (r32_c rfl) (by decide) ?_
  refine go_icmp_gt (t := 159) (pc' := 144) dX0_init_141 rfl rfl (fun c => absurd c (by decide)) (fun _ => ?_)
  refine go_aload_n (pc' := 145) dX0_init_144 rfl rfl (Nat.le_of_ble_eq_true rfl) ?_
  refine go_getRC (k' := 16) (L0 := 13) (P' := 78) (pc' := 148) dX0_init_145 rfl rf_0_62 rfl rfl rfl rfl ?_
  refine go_iload_n (pc' := 149) dX0_init_148 rfl rfl ?_
  refine go_rald (pc' := 150) dX0_init_149 rfl (by decide) ?_
  refine go_iconst (pc' := 151) dX0_init_150 rfl (r32_c rfl) ?_
  refine go_iconst (pc' := 152) dX0_init_151 rfl (r32_c rfl) ?_
  refine go_iast (pc' := 153) dX0_init_152 rfl (by decide) ?_
  refine go_iinc (L' := [some (pvR 0 0 62), some (pvI 7)]) (pc' := 156) dX0_init_153 rfl rfl (r32_c rfl) rfl ?_
  refine go_goto (t := 138) dX0_init_156 rfl ?_
  refine go_iload_n (pc' := 139) dX0_init_138 rfl rfl ?_
  refine go_bipush (pc' := 141) dX0_init_139 rfl (r32_c rfl) (by decide) ?_
  refine go_icmp_gt (t := 159) (pc' := 144) dX0_init_141 rfl rfl (fun c => absurd c (by decide)) (fun _ => ?_)
  refine go_aload_n (pc' := 145) dX0_init_144 rfl rfl (Nat.le_of_ble_eq_true rfl) ?_
  refine go_getRC (k' := 16) (L0 := 13) (P' := 78) (pc' := 148) dX0_init_145 rfl rf_0_62 rfl rfl rfl rfl ?_
  refine go_iload_n (pc' := 149) dX0_init_148 rfl rfl ?_
  refine go_rald (pc' := 150) dX0_init_149 rfl (by decide) ?_
  refine go_iconst (pc' := 151) dX0_init_150 rfl (r32_c rfl) ?_
  refine go_iconst (pc' := 152) dX0_init_151 rfl (r32_c rfl) ?_
  refine go_iast (pc' := 153) dX0_init_152 rfl (by decide) ?_
  refine go_iinc (L' := [some (pvR 0 0 62), some (pvI 8)]) (pc' := 156) dX0_init_153 rfl rfl (r32_c rfl) rfl ?_
  refine go_goto (t := 138) dX0_init_156 rfl ?_
  refine go_iload_n (pc' := 139) dX0_init_138 rfl rfl ?_
  refine go_bipush (pc' := 141) dX0_init_139 rfl (r32_c rfl) (by decide) ?_
  refine go_icmp_gt (t := 159) (pc' := 144) dX0_init_141 rfl rfl (fun c => absurd c (by decide)) (fun _ => ?_)
  refine go_aload_n (pc' := 145) dX0_init_144 rfl rfl (Nat.le_of_ble_eq_true rfl) ?_
  refine go_getRC (k' := 16) (L0 := 13) (P' := 78) (pc' := 148) dX0_init_145 rfl rf_0_62 rfl rfl rfl rfl ?_
  refine go_iload_n (pc' := 149) dX0_init_148 rfl rfl ?_
  refine go_rald (pc' := 150) dX0_init_149 rfl (by decide) ?_
  refine go_iconst (pc' := 151) dX0_init_150 rfl (r32_c rfl) ?_
  refine go_iconst (pc' := 152) dX0_init_151 rfl (r32_c rfl) ?_
  refine go_iast (pc' := 153) dX0_init_152 rfl (by decide) ?_
  refine go_iinc (L' := [some (pvR 0 0 62), some (pvI 9)]) (pc' := 156) dX0_init_153 rfl rfl (r32_c rfl) rfl ?_
  refine go_goto (t := 138) dX0_init_156 rfl ?_
  refine go_iload_n (pc' := 139) dX0_init_138 rfl rfl ?_
  refine go_bipush (pc' := 141) dX0_init_139 rfl (r32_c rfl) (by decide) ?_
  refine go_icmp_gt (t := 159) (pc' := 144) dX0_init_141 rfl rfl (fun c => absurd c (by decide)) (fun _ => ?_)
  refine go_aload_n (pc' := 145) dX0_init_144 rfl rfl (Nat.le_of_ble_eq_true rfl) ?_
  refine go_getRC (k' := 16) (L0 := 13) (P' := 78) (pc' := 148) dX0_init_145 rfl rf_0_62 rfl rfl rfl rfl ?_
  refine go_iload_n (pc' := 149) dX0_init_148 rfl rfl ?_
  refine go_rald (pc' := 150) dX0_init_149 rfl (by decide) ?_
  refine go_iconst (pc' := 151) dX0_init_150 rfl (r32_c rfl) ?_
  refine go_iconst (pc' := 152) dX0_init_151 rfl (r32_c rfl) ?_
  refine go_iast (pc' := 153) dX0_init_152 rfl (by decide) ?_
  refine go_iinc (L' := [some (pvR 0 0 62), some (pvI 10)]) (pc' := 156) dX0_init_153 rfl rfl (r32_c rfl) rfl ?_
  refine go_goto (t := 138) dX0_init_156 rfl ?_
  refine go_iload_n (pc' := 139) dX0_init_138 rfl rfl ?_
  refine go_bipush (pc' := 141) dX0_init_139 rfl (r32_c rfl) (by decide) ?_
  refine go_icmp_gt (t := 159) (pc' := 144) dX0_init_141 rfl rfl (fun c => absurd c (by decide)) (fun _ => ?_)
  refine go_aload_n (pc' := 145) dX0_init_144 rfl rfl (Nat.le_of_ble_eq_true rfl) ?_
  refine go_getRC (k' := 16) (L0 := 13) (P' := 78) (pc' := 148) dX0_init_145 rfl rf_0_62 rfl rfl rfl rfl ?_
  refine go_iload_n (pc' := 149) dX0_init_148 rfl rfl ?_
  refine go_rald (pc' := 150) dX0_init_149 rfl (by decide) ?_
  refine go_iconst (pc' := 151) dX0_init_150 rfl (r32_c rfl) ?_
  refine go_iconst (pc' := 152) dX0_init_151 rfl (r32_c rfl) ?_
  refine go_iast (pc' := 153) dX0_init_152 rfl (by decide) ?_
  refine go_iinc (L' := [some (pvR 0 0 62), some (pvI 11)]) (pc' := 156) dX0_init_153 rfl rfl (r32_c rfl) rfl ?_
  refine go_goto (t := 138) dX0_init_156 rfl ?_
  refine go_iload_n (pc' := 139) dX0_init_138 rfl rfl ?_
  refine go_bipush (pc' := 141) dX0_init_139 rfl (r32_c rfl) (by decide) ?_
  refine go_icmp_gt (t := 159) (pc' := 144) dX0_init_141 rfl rfl (fun c => absurd c (by decide)) (fun _ => ?_)
  refine go_aload_n (pc' := 145) dX0_init_144 rfl rfl (Nat.le_of_ble_eq_true rfl) ?_
  refine go_getRC (k' := 16) (L0 := 13) (P' := 78) (pc' := 148) dX0_init_145 rfl rf_0_62 rfl rfl rfl rfl ?_
  refine go_iload_n (pc' := 149) dX0_init_148 rfl rfl ?_
  refine go_rald (pc' := 150) dX0_init_149 rfl (by decide) ?_
  refine go_iconst (pc' := 151) dX0_init_150 rfl (r32_c rfl) ?_
  refine go_iconst (pc' := 152) dX0_init_151 rfl (r32_c rfl) ?_
  refine go_iast (pc' := 153) dX0_init_152 rfl (by decide) ?_
  refine go_iinc (L' := [some (pvR 0 0 62), some (pvI 12)]) (pc' := 156) dX0_init_153 rfl rfl (r32_c rfl) rfl ?_
  refine go_goto (t := 138) dX0_init_156 rfl ?_
  refine go_iload_n (pc' := 139) dX0_init_138 rfl rfl ?_
  refine go_bipush (pc' := 141) dX0_init_139 rfl (r32_c rfl) (by decide) ?_
  refine go_icmp_gt (t := 159) (pc' := 144) dX0_init_141 rfl rfl (fun c => absurd c (by decide)) (fun _ => ?_)
  refine go_aload_n (pc' := 145) dX0_init_144 rfl rfl (Nat.le_of_ble_eq_true rfl) ?_
  refine go_getRC (k' := 16) (L0 := 13) (P' := 78) (pc' := 148) dX0_init_145 rfl rf_0_62 rfl rfl rfl rfl ?_
  refine go_iload_n (pc' := 149) dX0_init_148 rfl rfl ?_
  refine go_rald (pc' := 150) dX0_init_149 rfl (by decide) ?_
  refine go_iconst (pc' := 151) dX0_init_150 rfl (r32_c rfl) ?_
  refine go_iconst (pc' := 152) dX0_init_151 rfl (r32_c rfl) ?_
  refine go_iast (pc' := 153) dX0_init_152 rfl (by decide) ?_
  refine go_iinc (L' := [some (pvR 0 0 62), some (pvI 13)]) (pc' := 156) dX0_init_153 rfl rfl (r32_c rfl) rfl ?_
  refine go_goto (t := 138) dX0_init_156 rfl ?_
  refine go_iload_n (pc' := 139) dX0_init_138 rfl rfl ?_
  refine go_bipush (pc' := 141) dX0_init_139 rfl (r32_c rfl) (by decide) ?_
  refine go_icmp_gt (t := 159) (pc' := 144) dX0_init_141 rfl rfl (fun _ => ?_) (fun c => absurd (by decide) c)
  exact go_vret dX0_init_159 rfl rfl

def k_JA_fill_94 (σ : Hp) : Hp := (hset (hset (hset (hset (hset (hset (hset (hset (hset (hset (hset (hset σ 94 0 (-1)) 94 1 (-1)) 94 2 (-1)) 94 3 (-1)) 94 4 (-1)) 94 5 (-1)) 94 6 (-1)) 94 7 (-1)) 94 8 (-1)) 94 9 (-1)) 94 10 (-1)) 94 11 (-1))
set_option maxRecDepth 10000 in
theorem l_JA_fill_94 (d e : Nat) (σ : Hp) : Ev (d + 1) 5 [pvR 12 12 94, pvI (-1)] (false, 95, e, σ) (0, none, false, 95, e, k_JA_fill_94 σ) := by
  refine Ev.of mtE5 rfl rfl rfl rfl ?_
  show Go none (Ev (d + 0)) mt5 0 [some (pvR 12 12 94), some (pvI (-1)), none, none] [] (false, 95, e, σ) (0, none, false, 95, e, k_JA_fill_94 σ)
  refine go_iconst (pc' := 1) dJ7_fill_53178_0 rfl (r32_c rfl) ?_
  refine go_istore_n (L' := [some (pvR 12 12 94), some (pvI (-1)), some (pvI 0), none]) (pc' := 2) dJ7_fill_53178_1 rfl (Nat.le_of_ble_eq_true rfl) rfl ?_
  refine go_aload_n (pc' := 3) dJ7_fill_53178_2 rfl rfl (Nat.le_of_ble_eq_true rfl) ?_
  refine go_alen (pc' := 4) dJ7_fill_53178_3 rfl (r32_c rfl) ?_
  refine go_istore_n (L' := [some (pvR 12 12 94), some (pvI (-1)), some (pvI 0), some (pvI 12)]) (pc' := 5) dJ7_fill_53178_4 rfl (Nat.le_of_ble_eq_true rfl) rfl ?_
  refine go_iload_n (pc' := 6) dJ7_fill_53178_5 rfl rfl ?_
  refine go_iload_n (pc' := 7) dJ7_fill_53178_6 rfl rfl ?_
  refine go_icmp_ge (t := 20) (pc' := 10) dJ7_fill_53178_7 rfl rfl (fun c => absurd c (by decide)) (fun _ => ?_)
  refine go_aload_n (pc' := 11) dJ7_fill_53178_10 rfl rfl (Nat.le_of_ble_eq_true rfl) ?_
  refine go_iload_n (pc' := 12) dJ7_fill_53178_11 rfl rfl ?_
  refine go_iload_n (pc' := 13) dJ7_fill_53178_12 rfl rfl ?_
  refine go_iast (pc' := 14) dJ7_fill_53178_13 rfl (by decide) ?_
  refine go_iinc (L' := [some (pvR 12 12 94), some (pvI (-1)), some (pvI 1), some (pvI 12)]) (pc' := 17) dJ7_fill_53178_14 rfl rfl (r32_c rfl) rfl ?_
  refine go_goto (t := 5) dJ7_fill_53178_17 rfl ?_
  refine go_iload_n (pc' := 6) dJ7_fill_53178_5 rfl rfl ?_
  refine go_iload_n (pc' := 7) dJ7_fill_53178_6 rfl rfl ?_
  refine go_icmp_ge (t := 20) (pc' := 10) dJ7_fill_53178_7 rfl rfl (fun c => absurd c (by decide)) (fun _ => ?_)
  refine go_aload_n (pc' := 11) dJ7_fill_53178_10 rfl rfl (Nat.le_of_ble_eq_true rfl) ?_
  refine go_iload_n (pc' := 12) dJ7_fill_53178_11 rfl rfl ?_
  refine go_iload_n (pc' := 13) dJ7_fill_53178_12 rfl rfl ?_
  refine go_iast (pc' := 14) dJ7_fill_53178_13 rfl (by decide) ?_
  refine go_iinc (L' := [some (pvR 12 12 94), some (pvI (-1)), some (pvI 2), some (pvI 12)]) (pc' := 17) dJ7_fill_53178_14 rfl rfl (r32_c rfl) rfl ?_
  refine go_goto (t := 5) dJ7_fill_53178_17 rfl ?_
  refine go_iload_n (pc' := 6) dJ7_fill_53178_5 rfl rfl ?_
  refine go_iload_n (pc' := 7) dJ7_fill_53178_6 rfl rfl ?_
  refine go_icmp_ge (t := 20) (pc' := 10) dJ7_fill_53178_7 rfl rfl (fun c => absurd c (by decide)) (fun _ => ?_)
  refine go_aload_n (pc' := 11) dJ7_fill_53178_10 rfl rfl (Nat.le_of_ble_eq_true rfl) ?_
  refine go_iload_n (pc' := 12) dJ7_fill_53178_11 rfl rfl ?_
  refine go_iload_n (pc' := 13) dJ7_fill_53178_12 rfl rfl ?_
  refine go_iast (pc' := 14) dJ7_fill_53178_13 rfl (by decide) ?_
  refine go_iinc (L' := [some (pvR 12 12 94), some (pvI (-1)), some (pvI 3), some (pvI 12)]) (pc' := 17) dJ7_fill_53178_14 rfl rfl (r32_c rfl) rfl ?_
  refine go_goto (t := 5) dJ7_fill_53178_17 rfl ?_
  refine go_iload_n (pc' := 6) dJ7_fill_53178_5 rfl rfl ?_
  refine go_iload_n (pc' := 7) dJ7_fill_53178_6 rfl rfl ?_
  refine go_icmp_ge (t := 20) (pc' := 10) dJ7_fill_53178_7 rfl rfl (fun c => absurd c (by decide)) (fun _ => ?_)
  refine go_aload_n (pc' := 11) dJ7_fill_53178_10 rfl rfl (Nat.le_of_ble_eq_true rfl) ?_
  refine go_iload_n (pc' := 12) dJ7_fill_53178_11 rfl rfl ?_
  refine go_iload_n (pc' := 13) dJ7_fill_53178_12 rfl rfl ?_
  refine go_iast (pc' := 14) dJ7_fill_53178_13 rfl (by decide) ?_
  refine go_iinc (L' := [some (pvR 12 12 94), some (pvI (-1)), some (pvI 4), some (pvI 12)]) (pc' := 17) dJ7_fill_53178_14 rfl rfl (r32_c rfl) rfl ?_
  refine go_goto (t := 5) dJ7_fill_53178_17 rfl ?_
  refine go_iload_n (pc' := 6) dJ7_fill_53178_5 rfl rfl ?_
  refine go_iload_n (pc' := 7) dJ7_fill_53178_6 rfl rfl ?_
  refine go_icmp_ge (t := 20) (pc' := 10) dJ7_fill_53178_7 rfl rfl (fun c => absurd c (by decide)) (fun _ => ?_)
  refine go_aload_n (pc' := 11) dJ7_fill_53178_10 rfl rfl (Nat.le_of_ble_eq_true rfl) ?_
  refine go_iload_n (pc' := 12) dJ7_fill_53178_11 rfl rfl ?_
  refine go_iload_n (pc' := 13) dJ7_fill_53178_12 rfl rfl ?_
  refine go_iast (pc' := 14) dJ7_fill_53178_13 rfl (by decide) ?_
  refine go_iinc (L' := [some (pvR 12 12 94), some (pvI (-1)), some (pvI 5), some (pvI 12)]) (pc' := 17) dJ7_fill_53178_14 rfl rfl (r32_c rfl) rfl ?_
  refine go_goto (t := 5) dJ7_fill_53178_17 rfl ?_
  refine go_iload_n (pc' := 6) dJ7_fill_53178_5 rfl rfl ?_
  refine go_iload_n (pc' := 7) dJ7_fill_53178_6 rfl rfl ?_
  refine go_icmp_ge (t := 20) (pc' := 10) dJ7_fill_53178_7 rfl rfl (fun c => absurd c (by decide)) (fun _ => ?_)
  refine go_aload_n (pc' := 11) dJ7_fill_53178_10 rfl rfl (Nat.le_of_ble_eq_true rfl) ?_
  refine go_iload_n (pc' := 12) dJ7_fill_53178_11 rfl rfl ?_
  refine go_iload_n (pc' := 13) dJ7_fill_53178_12 rfl rfl ?_
  refine go_iast (pc' := 14) dJ7_fill_53178_13 rfl (by decide) ?_
  refine go_iinc (L' := [some (pvR 12 12 94), some (pvI (-1)), some (pvI 6), some (pvI 12)]) (pc' := 17) dJ7_fill_53178_14 rfl rfl (r32_c rfl) rfl ?_
  refine go_goto (t := 5) dJ7_fill_53178_17 rfl ?_
  refine go_iload_n (pc' := 6) dJ7_fill_53178_5 rfl rfl ?_
  refine go_iload_n (pc' := 7) dJ7_fill_53178_6 rfl rfl ?_
  refine go_icmp_ge (t := 20) (pc' := 10) dJ7_fill_53178_7 rfl rfl (fun c => absurd c (by decide)) (fun _ => ?_)
  refine go_aload_n (pc' := 11) dJ7_fill_53178_10 rfl rfl (Nat.le_of_ble_eq_true rfl) ?_
  refine go_iload_n (pc' := 12) dJ7_fill_53178_11 rfl rfl ?_
  refine go_iload_n (pc' := 13) dJ7_fill_53178_12 rfl rfl ?_
  refine go_iast (pc' := 14) dJ7_fill_53178_13 rfl (by decide) ?_
  refine go_iinc (L' := [some (pvR 12 12 94), some (pvI (-1)), some (pvI 7), some (pvI 12)]) (pc' := 17) dJ7_fill_53178_14 rfl rfl (r32_c rfl) rfl ?_
  refine go_goto (t := 5) dJ7_fill_53178_17 rfl ?_
  refine go_iload_n (pc' := 6) dJ7_fill_53178_5 rfl rfl ?_
  refine go_iload_n (pc' := 7) dJ7_fill_53178_6 rfl rfl ?_
  refine go_icmp_ge (t := 20) (pc' := 10) dJ7_fill_53178_7 rfl rfl (fun c => absurd c (by decide)) (fun _ => ?_)
  refine go_aload_n (pc' := 11) dJ7_fill_53178_10 rfl rfl (Nat.le_of_ble_eq_true rfl) ?_
  refine go_iload_n (pc' := 12) dJ7_fill_53178_11 rfl rfl ?_
  refine go_iload_n (pc' := 13) dJ7_fill_53178_12 rfl rfl ?_
  refine go_iast (pc' := 14) dJ7_fill_53178_13 rfl (by decide) ?_
  refine go_iinc (L' := [some (pvR 12 12 94), some (pvI (-1)), some (pvI 8), some (pvI 12)]) (pc' := 17) dJ7_fill_53178_14 rfl rfl (r32_c rfl) rfl ?_
  refine go_goto (t := 5) dJ7_fill_53178_17 rfl ?_
  refine go_iload_n (pc' := 6) dJ7_fill_53178_5 rfl rfl ?_
  refine go_iload_n (pc' := 7) dJ7_fill_53178_6 rfl rfl ?_
  refine go_icmp_ge (t := 20) (pc' := 10) dJ7_fill_53178_7 rfl rfl (fun c => absurd c (by decide)) (fun _ => ?_)
  refine go_aload_n (pc' := 11) dJ7_fill_53178_10 rfl rfl (Nat.le_of_ble_eq_true rfl) ?_
  refine go_iload_n (pc' := 12) dJ7_fill_53178_11 rfl rfl ?_
  refine go_iload_n (pc' := 13) dJ7_fill_53178_12 rfl rfl ?_
  refine go_iast (pc' := 14) dJ7_fill_53178_13 rfl (by decide) ?_
  refine go_iinc (L' := [some (pvR 12 12 94), some (pvI (-1)), some (pvI 9), some (pvI 12)]) (pc' := 17) dJ7_fill_53178_14 rfl rfl (r32_c rfl) rfl ?_
  refine go_goto (t := 5) dJ7_fill_53178_17 rfl ?_
  refine go_iload_n (pc' := 6) dJ7_fill_53178_5 rfl rfl ?_
  refine go_iload_n (pc' := 7) dJ7_fill_53178_6 rfl rfl ?_
  refine go_icmp_ge (t := 20) (pc' := 10) dJ7_fill_53178_7 rfl rfl (fun c => absurd c (by decide)) (fun _ => ?_)
  refine go_aload_n (pc' := 11) dJ7_fill_53178_10 rfl rfl (Nat.le_of_ble_eq_true rfl) ?_
  refine go_iload_n (pc' := 12) dJ7_fill_53178_11 rfl rfl ?_
  refine go_iload_n (pc' := 13) dJ7_fill_53178_12 rfl rfl ?_
  refine go_iast (pc' := 14) dJ7_fill_53178_13 rfl (by decide) ?_
  refine go_iinc (L' := [some (pvR 12 12 94), some (pvI (-1)), some (pvI 10), some (pvI 12)]) (pc' := 17) dJ7_fill_53178_14 rfl rfl (r32_c rfl) rfl ?_
  refine go_goto (t := 5) dJ7_fill_53178_17 rfl ?_
  refine go_iload_n (pc' := 6) dJ7_fill_53178_5 rfl rfl ?_
  refine go_iload_n (pc' := 7) dJ7_fill_53178_6 rfl rfl ?_
  refine go_icmp_ge (t := 20) (pc' := 10) dJ7_fill_53178_7 rfl rfl (fun c => absurd c (by decide)) (fun _ => ?_)
  refine go_aload_n (pc' := 11) dJ7_fill_53178_10 rfl rfl (Nat.le_of_ble_eq_true rfl) ?_
  refine go_iload_n (pc' := 12) dJ7_fill_53178_11 rfl rfl ?_
  refine go_iload_n (pc' := 13) dJ7_fill_53178_12 rfl rfl ?_
  refine go_iast (pc' := 14) dJ7_fill_53178_13 rfl (by decide) ?_
  refine go_iinc (L' := [some (pvR 12 12 94), some (pvI (-1)), some (pvI 11), some (pvI 12)]) (pc' := 17) dJ7_fill_53178_14 rfl rfl (r32_c rfl) rfl ?_
  refine go_goto (t := 5) dJ7_fill_53178_17 rfl ?_
  refine go_iload_n (pc' := 6) dJ7_fill_53178_5 rfl rfl ?_
  refine go_iload_n (pc' := 7) dJ7_fill_53178_6 rfl rfl ?_
  refine go_icmp_ge (t := 20) (pc' := 10) dJ7_fill_53178_7 rfl rfl (fun c => absurd c (by decide)) (fun _ => ?_)
  refine go_aload_n (pc' := 11) dJ7_fill_53178_10 rfl rfl (Nat.le_of_ble_eq_true rfl) ?_
  refine go_iload_n (pc' := 12) dJ7_fill_53178_11 rfl rfl ?_
  refine go_iload_n (pc' := 13) dJ7_fill_53178_12 rfl rfl ?_
  refine go_iast (pc' := 14) dJ7_fill_53178_13 rfl (by decide) ?_
  refine go_iinc (L' := [some (pvR 12 12 94), some (pvI (-1)), some (pvI 12), some (pvI 12)]) (pc' := 17) dJ7_fill_53178_14 rfl rfl (r32_c rfl) rfl ?_
  refine go_goto (t := 5) dJ7_fill_53178_17 rfl ?_
  refine go_iload_n (pc' := 6) dJ7_fill_53178_5 rfl rfl ?_
  refine go_iload_n (pc' := 7) dJ7_fill_53178_6 rfl rfl ?_
  refine go_icmp_ge (t := 20) (pc' := 10) dJ7_fill_53178_7 rfl rfl (fun _ => ?_) (fun c => absurd (by decide) c)
  exact go_vret dJ7_fill_53178_20 rfl rfl

def k_TO_new_92 (σ : Hp) : Hp := (hset (k_JA_fill_94 (hset (zNew (hset (zNew (hset σ 92 0 1) 93) 92 1 93) 94) 92 2 94)) 94 0 0)
set_option maxRecDepth 10000 in
theorem l_TO_new_92 (d e : Nat) (σ : Hp) : Ev (d + 2) 4 [pvR 9 0 92] (false, 93, e, σ) (0, none, false, 95, e, k_TO_new_92 σ) := by
  refine Ev.of mtE4 rfl rfl rfl rfl ?_
  show Go none (Ev (d + 1)) mt4 0 [some (pvR 9 0 92)] [] (false, 93, e, σ) (0, none, false, 95, e, k_TO_new_92 σ)
  refine go_aload_n (pc' := 1) dX9_init_0 rfl rfl (Nat.le_of_ble_eq_true rfl) ?_
  refine go_obj (pc' := 4) dX9_init_1 rfl rm_9_3 (Nat.le_of_ble_eq_true rfl) ?_
  refine go_aload_n (pc' := 5) dX9_init_4 rfl rfl (Nat.le_of_ble_eq_true rfl) ?_
  refine go_iconst (pc' := 6) dX9_init_5 rfl (r32_c rfl) ?_
  refine go_putI (pc' := 9) dX9_init_6 rfl rf_9_9 rfl ?_
  refine go_aload_n (pc' := 10) dX9_init_9 rfl rfl (Nat.le_of_ble_eq_true rfl) ?_
  refine go_bipush (pc' := 12) dX9_init_10 rfl (r32_c rfl) (by decide) ?_
  refine go_newarr (k := 12) (L0 := 12) dX9_init_12 rfl (by decide) rfl rfl rfl (by decide) rfl ?_
  refine go_putR (P' := 93) (pc' := 17) dX9_init_14 rfl rf_9_15 rfl rfl rfl ⟨rfl, rfl⟩ ?_
  refine go_aload_n (pc' := 18) dX9_init_17 rfl rfl (Nat.le_of_ble_eq_true rfl) ?_
  refine go_bipush (pc' := 20) dX9_init_18 rfl (r32_c rfl) (by decide) ?_
  refine go_newarr (k := 12) (L0 := 12) dX9_init_20 rfl (by decide) rfl rfl rfl (by decide) rfl ?_
  refine go_putR (P' := 94) (pc' := 25) dX9_init_22 rfl rf_9_19 rfl rfl rfl ⟨rfl, rfl⟩ ?_
  refine go_aload_n (pc' := 26) dX9_init_25 rfl rfl (Nat.le_of_ble_eq_true rfl) ?_
  refine go_getRC (k' := 12) (L0 := 12) (P' := 94) (pc' := 29) dX9_init_26 rfl rf_9_19 rfl rfl rfl rfl ?_
  refine go_iconst (pc' := 30) dX9_init_29 rfl (r32_c rfl) ?_
  refine go_call (kc := 5) (Mc := mt5) (v := none) (pc' := 33) [pvR 12 12 94, pvI (-1)] [] (Or.inr (Or.inl rfl)) dX9_init_30 rfl rm_9_22 mtE5 rfl rfl rfl (Nat.le_of_ble_eq_true rfl) (Or.inl (by decide)) (l_JA_fill_94 (d + 0) e _) rfl ?_
  refine go_aload_n (pc' := 34) dX9_init_33 rfl rfl (Nat.le_of_ble_eq_true rfl) ?_
  refine go_getRC (k' := 12) (L0 := 12) (P' := 94) (pc' := 37) dX9_init_34 rfl rf_9_19 rfl rfl rfl rfl ?_
  refine go_iconst (pc' := 38) dX9_init_37 rfl (r32_c rfl) ?_
  refine go_iconst (pc' := 39) dX9_init_38 rfl (r32_c rfl) ?_
  refine go_iast (pc' := 40) dX9_init_39 rfl (by decide) ?_
  exact go_vret dX9_init_40 rfl rfl

def k_S_new_1 (σ : Hp) : Hp := (hset (k_TO_new_92 (zNew (hset (k_D_new_62 (zNew (hset (k_D_new_32 (zNew (hset (k_D_new_2 (zNew σ 2)) 1 0 2) 32)) 1 1 32) 62)) 1 2 62) 92)) 1 3 92)
set_option maxRecDepth 10000 in
theorem l_S_new_1 (d e : Nat) (σ : Hp) : Ev (d + 3) 1 [pvR 7 0 1] (false, 2, e, σ) (0, none, false, 95, e, k_S_new_1 σ) := by
  refine Ev.of mtE1 rfl rfl rfl rfl ?_
  show Go none (Ev (d + 2)) mt1 0 [some (pvR 7 0 1)] [] (false, 2, e, σ) (0, none, false, 95, e, k_S_new_1 σ)
  refine go_aload_n (pc' := 1) dX7_init_0 rfl rfl (Nat.le_of_ble_eq_true rfl) ?_
  refine go_obj (pc' := 4) dX7_init_1 rfl rm_7_3 (Nat.le_of_ble_eq_true rfl) ?_
  refine go_aload_n (pc' := 5) dX7_init_4 rfl rfl (Nat.le_of_ble_eq_true rfl) ?_
  refine go_new (k := 0) dX7_init_5 rfl (by decide) (by decide +kernel) rfl rfl (by decide) ?_
  refine go_dup (pc' := 9) dX7_init_8 rfl (Nat.ne_of_beq_eq_false rfl) ?_
  refine go_call (kc := 2) (Mc := mt2) (v := none) (pc' := 12) [pvR 0 0 2] [pvR 0 0 2, pvR 7 0 1] (Or.inr (Or.inr (Or.inl rfl))) dX7_init_9 rfl rm_7_11 mtE2 rfl rfl rfl (Nat.le_of_ble_eq_true rfl) (Or.inr ⟨_, _, 2, rfl, Or.inl rfl⟩) (l_D_new_2 (d + 0) e _) rfl ?_
  refine go_putR (P' := 2) (pc' := 15) dX7_init_12 rfl rf_7_12 rfl rfl rfl ⟨rfl, rfl⟩ ?_
  refine go_aload_n (pc' := 16) dX7_init_15 rfl rfl (Nat.le_of_ble_eq_true rfl) ?_
  refine go_new (k := 0) dX7_init_16 rfl (by decide) (by decide +kernel) rfl rfl (by decide) ?_
  refine go_dup (pc' := 20) dX7_init_19 rfl (Nat.ne_of_beq_eq_false rfl) ?_
  refine go_call (kc := 2) (Mc := mt2) (v := none) (pc' := 23) [pvR 0 0 32] [pvR 0 0 32, pvR 7 0 1] (Or.inr (Or.inr (Or.inl rfl))) dX7_init_20 rfl rm_7_11 mtE2 rfl rfl rfl (Nat.le_of_ble_eq_true rfl) (Or.inr ⟨_, _, 32, rfl, Or.inl rfl⟩) (l_D_new_32 (d + 0) e _) rfl ?_
  refine go_putR (P' := 32) (pc' := 26) dX7_init_23 rfl rf_7_18 rfl rfl rfl ⟨rfl, rfl⟩ ?_
  refine go_aload_n (pc' := 27) dX7_init_26 rfl rfl (Nat.le_of_ble_eq_true rfl) ?_
  refine go_new (k := 0) dX7_init_27 rfl (by decide) (by decide +kernel) rfl rfl (by decide) ?_
  refine go_dup (pc' := 31) dX7_init_30 rfl (Nat.ne_of_beq_eq_false rfl) ?_
  refine go_call (kc := 2) (Mc := mt2) (v := none) (pc' := 34) [pvR 0 0 62] [pvR 0 0 62, pvR 7 0 1] (Or.inr (Or.inr (Or.inl rfl))) dX7_init_31 rfl rm_7_11 mtE2 rfl rfl rfl (Nat.le_of_ble_eq_true rfl) (Or.inr ⟨_, _, 62, rfl, Or.inl rfl⟩) (l_D_new_62 (d + 0) e _) rfl ?_
  refine go_putR (P' := 62) (pc' := 37) dX7_init_34 rfl rf_7_21 rfl rfl rfl ⟨rfl, rfl⟩ ?_
  refine go_aload_n (pc' := 38) dX7_init_37 rfl rfl (Nat.le_of_ble_eq_true rfl) ?_
  refine go_new (k := 9) dX7_init_38 rfl (by decide) (by decide +kernel) rfl rfl (by decide) ?_
  refine go_dup (pc' := 42) dX7_init_41 rfl (Nat.ne_of_beq_eq_false rfl) ?_
  refine go_call (kc := 4) (Mc := mt4) (v := none) (pc' := 45) [pvR 9 0 92] [pvR 9 0 92, pvR 7 0 1] (Or.inr (Or.inr (Or.inl rfl))) dX7_init_42 rfl rm_7_26 mtE4 rfl rfl rfl (Nat.le_of_ble_eq_true rfl) (Or.inr ⟨_, _, 92, rfl, Or.inl rfl⟩) (l_TO_new_92 (d + 0) e _) rfl ?_
  refine go_putR (P' := 92) (pc' := 48) dX7_init_45 rfl rf_7_27 rfl rfl rfl ⟨rfl, rfl⟩ ?_
  exact go_vret dX7_init_48 rfl rfl

def k_MS_new_95 (σ : Hp) : Hp := (hset (zNew (hset (zNew (hset (zNew (hset (zNew (hset (zNew σ 96) 95 1 96) 97) 95 2 97) 98) 95 3 98) 99) 95 4 99) 100) 95 5 100)
set_option maxRecDepth 10000 in
theorem l_MS_new_95 (d e : Nat) (σ : Hp) : Ev (d + 1) 6 [pvR 4 0 95] (false, 96, e, σ) (0, none, false, 101, e, k_MS_new_95 σ) := by
  refine Ev.of mtE6 rfl rfl rfl rfl ?_
  show Go none (Ev (d + 0)) mt6 0 [some (pvR 4 0 95)] [] (false, 96, e, σ) (0, none, false, 101, e, k_MS_new_95 σ)
  refine go_aload_n (pc' := 1) dX4_init_0 rfl rfl (Nat.le_of_ble_eq_true rfl) ?_
  refine go_obj (pc' := 4) dX4_init_1 rfl rm_4_3 (Nat.le_of_ble_eq_true rfl) ?_
  refine go_aload_n (pc' := 5) dX4_init_4 rfl rfl (Nat.le_of_ble_eq_true rfl) ?_
  refine go_iconst (pc' := 6) dX4_init_5 rfl (r32_c rfl) ?_
  refine go_newarr (k := 12) (L0 := 4) dX4_init_6 rfl (by decide) rfl rfl rfl (by decide) rfl ?_
  refine go_putR (P' := 96) (pc' := 11) dX4_init_8 rfl rf_4_9 rfl rfl rfl ⟨rfl, rfl⟩ ?_
  refine go_aload_n (pc' := 12) dX4_init_11 rfl rfl (Nat.le_of_ble_eq_true rfl) ?_
  refine go_iconst (pc' := 13) dX4_init_12 rfl (r32_c rfl) ?_
  refine go_newarr (k := 12) (L0 := 4) dX4_init_13 rfl (by decide) rfl rfl rfl (by decide) rfl ?_
  refine go_putR (P' := 97) (pc' := 18) dX4_init_15 rfl rf_4_15 rfl rfl rfl ⟨rfl, rfl⟩ ?_
  refine go_aload_n (pc' := 19) dX4_init_18 rfl rfl (Nat.le_of_ble_eq_true rfl) ?_
  refine go_iconst (pc' := 20) dX4_init_19 rfl (r32_c rfl) ?_
  refine go_newarr (k := 12) (L0 := 4) dX4_init_20 rfl (by decide) rfl rfl rfl (by decide) rfl ?_
  refine go_putR (P' := 98) (pc' := 25) dX4_init_22 rfl rf_4_18 rfl rfl rfl ⟨rfl, rfl⟩ ?_
  refine go_aload_n (pc' := 26) dX4_init_25 rfl rfl (Nat.le_of_ble_eq_true rfl) ?_
  refine go_iconst (pc' := 27) dX4_init_26 rfl (r32_c rfl) ?_
  refine go_newarr (k := 12) (L0 := 4) dX4_init_27 rfl (by decide) rfl rfl rfl (by decide) rfl ?_
  refine go_putR (P' := 99) (pc' := 32) dX4_init_29 rfl rf_4_21 rfl rfl rfl ⟨rfl, rfl⟩ ?_
  refine go_aload_n (pc' := 33) dX4_init_32 rfl rfl (Nat.le_of_ble_eq_true rfl) ?_
  refine go_bipush (pc' := 35) dX4_init_33 rfl (r32_c rfl) (by decide) ?_
  refine go_newarr (k := 12) (L0 := 12) dX4_init_35 rfl (by decide) rfl rfl rfl (by decide) rfl ?_
  refine go_putR (P' := 100) (pc' := 40) dX4_init_37 rfl rf_4_24 rfl rfl rfl ⟨rfl, rfl⟩ ?_
  exact go_vret dX4_init_40 rfl rfl

def k_FR_new_101 (σ : Hp) : Hp := (hset (zNew (hset (zNew (hset (zNew (hset (zNew (hset (zNew (hset (zNew σ 102) 101 3 102) 103) 101 4 103) 104) 101 5 104) 105) 101 6 105) 106) 101 7 106) 107) 101 8 107)
set_option maxRecDepth 10000 in
theorem l_FR_new_101 (d e : Nat) (σ : Hp) : Ev (d + 1) 7 [pvR 1 0 101] (false, 102, e, σ) (0, none, false, 108, e, k_FR_new_101 σ) := by
  refine Ev.of mtE7 rfl rfl rfl rfl ?_
  show Go none (Ev (d + 0)) mt7 0 [some (pvR 1 0 101)] [] (false, 102, e, σ) (0, none, false, 108, e, k_FR_new_101 σ)
  refine go_aload_n (pc' := 1) dX1_init_0 rfl rfl (Nat.le_of_ble_eq_true rfl) ?_
  refine go_obj (pc' := 4) dX1_init_1 rfl rm_1_3 (Nat.le_of_ble_eq_true rfl) ?_
  refine go_aload_n (pc' := 5) dX1_init_4 rfl rfl (Nat.le_of_ble_eq_true rfl) ?_
  refine go_bipush (pc' := 7) dX1_init_5 rfl (r32_c rfl) (by decide) ?_
  refine go_newarr (k := 12) (L0 := 50) dX1_init_7 rfl (by decide) rfl rfl rfl (by decide) rfl ?_
  refine go_putR (P' := 102) (pc' := 12) dX1_init_9 rfl rf_1_9 rfl rfl rfl ⟨rfl, rfl⟩ ?_
  refine go_aload_n (pc' := 13) dX1_init_12 rfl rfl (Nat.le_of_ble_eq_true rfl) ?_
  refine go_bipush (pc' := 15) dX1_init_13 rfl (r32_c rfl) (by decide) ?_
  refine go_newarr (k := 12) (L0 := 50) dX1_init_15 rfl (by decide) rfl rfl rfl (by decide) rfl ?_
  refine go_putR (P' := 103) (pc' := 20) dX1_init_17 rfl rf_1_15 rfl rfl rfl ⟨rfl, rfl⟩ ?_
  refine go_aload_n (pc' := 21) dX1_init_20 rfl rfl (Nat.le_of_ble_eq_true rfl) ?_
  refine go_bipush (pc' := 23) dX1_init_21 rfl (r32_c rfl) (by decide) ?_
  refine go_newarr (k := 12) (L0 := 50) dX1_init_23 rfl (by decide) rfl rfl rfl (by decide) rfl ?_
  refine go_putR (P' := 104) (pc' := 28) dX1_init_25 rfl rf_1_18 rfl rfl rfl ⟨rfl, rfl⟩ ?_
  refine go_aload_n (pc' := 29) dX1_init_28 rfl rfl (Nat.le_of_ble_eq_true rfl) ?_
  refine go_bipush (pc' := 31) dX1_init_29 rfl (r32_c rfl) (by decide) ?_
  refine go_newarr (k := 12) (L0 := 50) dX1_init_31 rfl (by decide) rfl rfl rfl (by decide) rfl ?_
  refine go_putR (P' := 105) (pc' := 36) dX1_init_33 rfl rf_1_21 rfl rfl rfl ⟨rfl, rfl⟩ ?_
  refine go_aload_n (pc' := 37) dX1_init_36 rfl rfl (Nat.le_of_ble_eq_true rfl) ?_
  refine go_bipush (pc' := 39) dX1_init_37 rfl (r32_c rfl) (by decide) ?_
  refine go_newarr (k := 12) (L0 := 50) dX1_init_39 rfl (by decide) rfl rfl rfl (by decide) rfl ?_
  refine go_putR (P' := 106) (pc' := 44) dX1_init_41 rfl rf_1_24 rfl rfl rfl ⟨rfl, rfl⟩ ?_
  refine go_aload_n (pc' := 45) dX1_init_44 rfl rfl (Nat.le_of_ble_eq_true rfl) ?_
  refine go_bipush (pc' := 47) dX1_init_45 rfl (r32_c rfl) (by decide) ?_
  refine go_newarr (k := 12) (L0 := 50) dX1_init_47 rfl (by decide) rfl rfl rfl (by decide) rfl ?_
  refine go_putR (P' := 107) (pc' := 52) dX1_init_49 rfl rf_1_27 rfl rfl rfl ⟨rfl, rfl⟩ ?_
  exact go_vret dX1_init_52 rfl rfl

def k_K_new_108 (σ : Hp) : Hp := (hset (zNew (hset (zNew (hset (zNew σ 109) 108 2 109) 110) 108 3 110) 111) 108 4 111)
set_option maxRecDepth 10000 in
theorem l_K_new_108 (d e : Nat) (σ : Hp) : Ev (d + 1) 8 [pvR 3 0 108] (false, 109, e, σ) (0, none, false, 112, e, k_K_new_108 σ) := by
  refine Ev.of mtE8 rfl rfl rfl rfl ?_
  show Go none (Ev (d + 0)) mt8 0 [some (pvR 3 0 108)] [] (false, 109, e, σ) (0, none, false, 112, e, k_K_new_108 σ)
  refine go_aload_n (pc' := 1) dX3_init_0 rfl rfl (Nat.le_of_ble_eq_true rfl) ?_
  refine go_obj (pc' := 4) dX3_init_1 rfl rm_3_3 (Nat.le_of_ble_eq_true rfl) ?_
  refine go_aload_n (pc' := 5) dX3_init_4 rfl rfl (Nat.le_of_ble_eq_true rfl) ?_
  refine go_bipush (pc' := 7) dX3_init_5 rfl (r32_c rfl) (by decide) ?_
  refine go_newarr (k := 12) (L0 := 20) dX3_init_7 rfl (by decide) rfl rfl rfl (by decide) rfl ?_
  refine go_putR (P' := 109) (pc' := 12) dX3_init_9 rfl rf_3_9 rfl rfl rfl ⟨rfl, rfl⟩ ?_
  refine go_aload_n (pc' := 13) dX3_init_12 rfl rfl (Nat.le_of_ble_eq_true rfl) ?_
  refine go_bipush (pc' := 15) dX3_init_13 rfl (r32_c rfl) (by decide) ?_
  refine go_newarr (k := 12) (L0 := 20) dX3_init_15 rfl (by decide) rfl rfl rfl (by decide) rfl ?_
  refine go_putR (P' := 110) (pc' := 20) dX3_init_17 rfl rf_3_15 rfl rfl rfl ⟨rfl, rfl⟩ ?_
  refine go_aload_n (pc' := 21) dX3_init_20 rfl rfl (Nat.le_of_ble_eq_true rfl) ?_
  refine go_bipush (pc' := 23) dX3_init_21 rfl (r32_c rfl) (by decide) ?_
  refine go_newarr (k := 13) (L0 := 20) dX3_init_23 rfl (by decide) rfl rfl rfl (by decide) rfl ?_
  refine go_putR (P' := 111) (pc' := 28) dX3_init_25 rfl rf_3_18 rfl rfl rfl ⟨rfl, rfl⟩ ?_
  exact go_vret dX3_init_28 rfl rfl

def k_SP_new_112 (σ : Hp) : Hp := (hset (zNew (hset (zNew (hset (zNew σ 113) 112 2 113) 114) 112 3 114) 115) 112 4 115)
set_option maxRecDepth 10000 in
theorem l_SP_new_112 (d e : Nat) (σ : Hp) : Ev (d + 1) 9 [pvR 8 0 112] (false, 113, e, σ) (0, none, false, 116, e, k_SP_new_112 σ) := by
  refine Ev.of mtE9 rfl rfl rfl rfl ?_
  show Go none (Ev (d + 0)) mt9 0 [some (pvR 8 0 112)] [] (false, 113, e, σ) (0, none, false, 116, e, k_SP_new_112 σ)
  refine go_aload_n (pc' := 1) dX8_init_0 rfl rfl (Nat.le_of_ble_eq_true rfl) ?_
  refine go_obj (pc' := 4) dX8_init_1 rfl rm_8_3 (Nat.le_of_ble_eq_true rfl) ?_
  refine go_aload_n (pc' := 5) dX8_init_4 rfl rfl (Nat.le_of_ble_eq_true rfl) ?_
  refine go_bipush (pc' := 7) dX8_init_5 rfl (r32_c rfl) (by decide) ?_
  refine go_newarr (k := 13) (L0 := 50) dX8_init_7 rfl (by decide) rfl rfl rfl (by decide) rfl ?_
  refine go_putR (P' := 113) (pc' := 12) dX8_init_9 rfl rf_8_9 rfl rfl rfl ⟨rfl, rfl⟩ ?_
  refine go_aload_n (pc' := 13) dX8_init_12 rfl rfl (Nat.le_of_ble_eq_true rfl) ?_
  refine go_bipush (pc' := 15) dX8_init_13 rfl (r32_c rfl) (by decide) ?_
  refine go_newarr (k := 13) (L0 := 50) dX8_init_15 rfl (by decide) rfl rfl rfl (by decide) rfl ?_
  refine go_putR (P' := 114) (pc' := 20) dX8_init_17 rfl rf_8_15 rfl rfl rfl ⟨rfl, rfl⟩ ?_
  refine go_aload_n (pc' := 21) dX8_init_20 rfl rfl (Nat.le_of_ble_eq_true rfl) ?_
  refine go_bipush (pc' := 23) dX8_init_21 rfl (r32_c rfl) (by decide) ?_
  refine go_newarr (k := 13) (L0 := 50) dX8_init_23 rfl (by decide) rfl rfl rfl (by decide) rfl ?_
  refine go_putR (P' := 115) (pc' := 28) dX8_init_25 rfl rf_8_18 rfl rfl rfl ⟨rfl, rfl⟩ ?_
  exact go_vret dX8_init_28 rfl rfl

def k_R_new_116 (σ : Hp) : Hp := (hset (hset (hset (hset (zNew (hset (zNew (hset (zNew (hset (zNew (hset (zNew (hset (zNew (hset (zNew (hset (zNew σ 117) 116 5 117) 118) 116 6 118) 119) 116 7 119) 120) 116 8 120) 121) 116 10 121) 122) 116 11 122) 123) 116 12 123) 124) 116 13 124) 116 0 1) 116 1 95) 116 2 101)
set_option maxRecDepth 10000 in
theorem l_R_new_116 (d e : Nat) (σ : Hp) : Ev (d + 1) 10 [pvR 6 0 116, pvR 7 0 1, pvR 4 0 95, pvR 1 0 101] (false, 117, e, σ) (0, none, false, 125, e, k_R_new_116 σ) := by
  refine Ev.of mtE10 rfl rfl rfl rfl ?_
  show Go none (Ev (d + 0)) mt10 0 [some (pvR 6 0 116), some (pvR 7 0 1), some (pvR 4 0 95), some (pvR 1 0 101)] [] (false, 117, e, σ) (0, none, false, 125, e, k_R_new_116 σ)
  refine go_aload_n (pc' := 1) dX6_init_0 rfl rfl (Nat.le_of_ble_eq_true rfl) ?_
  refine go_obj (pc' := 4) dX6_init_1 rfl rm_6_3 (Nat.le_of_ble_eq_true rfl) ?_
  refine go_aload_n (pc' := 5) dX6_init_4 rfl rfl (Nat.le_of_ble_eq_true rfl) ?_
  refine go_sipush (pc' := 8) dX6_init_5 rfl (r32_c rfl) (by decide) ?_
  refine go_newarr (k := 12) (L0 := 1728) dX6_init_8 rfl (by decide) rfl rfl rfl (by decide) rfl ?_
  refine go_putR (P' := 117) (pc' := 13) dX6_init_10 rfl rf_6_9 rfl rfl rfl ⟨rfl, rfl⟩ ?_
  refine go_aload_n (pc' := 14) dX6_init_13 rfl rfl (Nat.le_of_ble_eq_true rfl) ?_
  refine go_sipush (pc' := 17) dX6_init_14 rfl (r32_c rfl) (by decide) ?_
  refine go_newarr (k := 13) (L0 := 1728) dX6_init_17 rfl (by decide) rfl rfl rfl (by decide) rfl ?_
  refine go_putR (P' := 118) (pc' := 22) dX6_init_19 rfl rf_6_15 rfl rfl rfl ⟨rfl, rfl⟩ ?_
  refine go_aload_n (pc' := 23) dX6_init_22 rfl rfl (Nat.le_of_ble_eq_true rfl) ?_
  refine go_sipush (pc' := 26) dX6_init_23 rfl (r32_c rfl) (by decide) ?_
  refine go_newarr (k := 13) (L0 := 410) dX6_init_26 rfl (by decide) rfl rfl rfl (by decide) rfl ?_
  refine go_putR (P' := 119) (pc' := 31) dX6_init_28 rfl rf_6_19 rfl rfl rfl ⟨rfl, rfl⟩ ?_
  refine go_aload_n (pc' := 32) dX6_init_31 rfl rfl (Nat.le_of_ble_eq_true rfl) ?_
  refine go_iconst (pc' := 33) dX6_init_32 rfl (r32_c rfl) ?_
  refine go_newarr (k := 13) (L0 := 4) dX6_init_33 rfl (by decide) rfl rfl rfl (by decide) rfl ?_
  refine go_putR (P' := 120) (pc' := 38) dX6_init_35 rfl rf_6_22 rfl rfl rfl ⟨rfl, rfl⟩ ?_
  refine go_aload_n (pc' := 39) dX6_init_38 rfl rfl (Nat.le_of_ble_eq_true rfl) ?_
  refine go_bipush (pc' := 41) dX6_init_39 rfl (r32_c rfl) (by decide) ?_
  refine go_newarr (k := 12) (L0 := 50) dX6_init_41 rfl (by decide) rfl rfl rfl (by decide) rfl ?_
  refine go_putR (P' := 121) (pc' := 46) dX6_init_43 rfl rf_6_25 rfl rfl rfl ⟨rfl, rfl⟩ ?_
  refine go_aload_n (pc' := 47) dX6_init_46 rfl rfl (Nat.le_of_ble_eq_true rfl) ?_
  refine go_bipush (pc' := 49) dX6_init_47 rfl (r32_c rfl) (by decide) ?_
  refine go_newarr (k := 12) (L0 := 50) dX6_init_49 rfl (by decide) rfl rfl rfl (by decide) rfl ?_
  refine go_putR (P' := 122) (pc' := 54) dX6_init_51 rfl rf_6_28 rfl rfl rfl ⟨rfl, rfl⟩ ?_
  refine go_aload_n (pc' := 55) dX6_init_54 rfl rfl (Nat.le_of_ble_eq_true rfl) ?_
  refine go_bipush (pc' := 57) dX6_init_55 rfl (r32_c rfl) (by decide) ?_
  refine go_newarr (k := 12) (L0 := 50) dX6_init_57 rfl (by decide) rfl rfl rfl (by decide) rfl ?_
  refine go_putR (P' := 123) (pc' := 62) dX6_init_59 rfl rf_6_31 rfl rfl rfl ⟨rfl, rfl⟩ ?_
  refine go_aload_n (pc' := 63) dX6_init_62 rfl rfl (Nat.le_of_ble_eq_true rfl) ?_
  refine go_bipush (pc' := 65) dX6_init_63 rfl (r32_c rfl) (by decide) ?_
  refine go_newarr (k := 13) (L0 := 12) dX6_init_65 rfl (by decide) rfl rfl rfl (by decide) rfl ?_
  refine go_putR (P' := 124) (pc' := 70) dX6_init_67 rfl rf_6_34 rfl rfl rfl ⟨rfl, rfl⟩ ?_
  refine go_aload_n (pc' := 71) dX6_init_70 rfl rfl (Nat.le_of_ble_eq_true rfl) ?_
  refine go_aload_n (pc' := 72) dX6_init_71 rfl rfl (Nat.le_of_ble_eq_true rfl) ?_
  refine go_putR (P' := 1) (pc' := 75) dX6_init_72 rfl rf_6_37 rfl rfl rfl ⟨rfl, rfl⟩ ?_
  refine go_aload_n (pc' := 76) dX6_init_75 rfl rfl (Nat.le_of_ble_eq_true rfl) ?_
  refine go_aload_n (pc' := 77) dX6_init_76 rfl rfl (Nat.le_of_ble_eq_true rfl) ?_
  refine go_putR (P' := 95) (pc' := 80) dX6_init_77 rfl rf_6_41 rfl rfl rfl ⟨rfl, rfl⟩ ?_
  refine go_aload_n (pc' := 81) dX6_init_80 rfl rfl (Nat.le_of_ble_eq_true rfl) ?_
  refine go_aload_n (pc' := 82) dX6_init_81 rfl rfl (Nat.le_of_ble_eq_true rfl) ?_
  refine go_putR (P' := 101) (pc' := 85) dX6_init_82 rfl rf_6_45 rfl rfl rfl ⟨rfl, rfl⟩ ?_
  exact go_vret dX6_init_85 rfl rfl

def k_F_new_125 (σ : Hp) : Hp := (hset (zNew (hset (zNew (hset (zNew σ 126) 125 2 126) 127) 125 3 127) 128) 125 4 128)
set_option maxRecDepth 10000 in
theorem l_F_new_125 (d e : Nat) (σ : Hp) : Ev (d + 1) 11 [pvR 2 0 125] (false, 126, e, σ) (0, none, false, 129, e, k_F_new_125 σ) := by
  refine Ev.of mtE11 rfl rfl rfl rfl ?_
  show Go none (Ev (d + 0)) mt11 0 [some (pvR 2 0 125)] [] (false, 126, e, σ) (0, none, false, 129, e, k_F_new_125 σ)
  refine go_aload_n (pc' := 1) dX2_init_0 rfl rfl (Nat.le_of_ble_eq_true rfl) ?_
  refine go_obj (pc' := 4) dX2_init_1 rfl rm_2_3 (Nat.le_of_ble_eq_true rfl) ?_
  refine go_aload_n (pc' := 5) dX2_init_4 rfl rfl (Nat.le_of_ble_eq_true rfl) ?_
  refine go_bipush (pc' := 7) dX2_init_5 rfl (r32_c rfl) (by decide) ?_
  refine go_newarr (k := 12) (L0 := 10) dX2_init_7 rfl (by decide) rfl rfl rfl (by decide) rfl ?_
  refine go_putR (P' := 126) (pc' := 12) dX2_init_9 rfl rf_2_9 rfl rfl rfl ⟨rfl, rfl⟩ ?_
  refine go_aload_n (pc' := 13) dX2_init_12 rfl rfl (Nat.le_of_ble_eq_true rfl) ?_
  refine go_bipush (pc' := 15) dX2_init_13 rfl (r32_c rfl) (by decide) ?_
  refine go_newarr (k := 12) (L0 := 10) dX2_init_15 rfl (by decide) rfl rfl rfl (by decide) rfl ?_
  refine go_putR (P' := 127) (pc' := 20) dX2_init_17 rfl rf_2_15 rfl rfl rfl ⟨rfl, rfl⟩ ?_
  refine go_aload_n (pc' := 21) dX2_init_20 rfl rfl (Nat.le_of_ble_eq_true rfl) ?_
  refine go_bipush (pc' := 23) dX2_init_21 rfl (r32_c rfl) (by decide) ?_
  refine go_newarr (k := 12) (L0 := 10) dX2_init_23 rfl (by decide) rfl rfl rfl (by decide) rfl ?_
  refine go_putR (P' := 128) (pc' := 28) dX2_init_25 rfl rf_2_18 rfl rfl rfl ⟨rfl, rfl⟩ ?_
  exact go_vret dX2_init_28 rfl rfl

def k_C_new_0 (σ : Hp) : Hp := (hset (k_F_new_125 (zNew (hset (k_R_new_116 (zNew (hset (k_SP_new_112 (zNew (hset (k_K_new_108 (zNew (hset (k_FR_new_101 (zNew (hset (k_MS_new_95 (zNew (hset (k_S_new_1 (zNew σ 1)) 0 0 1) 95)) 0 1 95) 101)) 0 2 101) 108)) 0 3 108) 112)) 0 4 112) 116)) 0 5 116) 125)) 0 6 125)
set_option maxRecDepth 10000 in
theorem l_C_new_0 (d e : Nat) (σ : Hp) : Ev (d + 4) 0 [pvR 10 0 0] (false, 1, e, σ) (0, none, false, 129, e, k_C_new_0 σ) := by
  refine Ev.of mtE0 rfl rfl rfl rfl ?_
  show Go none (Ev (d + 3)) mt0 0 [some (pvR 10 0 0)] [] (false, 1, e, σ) (0, none, false, 129, e, k_C_new_0 σ)
  refine go_aload_n (pc' := 1) dX10_init_0 rfl rfl (Nat.le_of_ble_eq_true rfl) ?_
  refine go_obj (pc' := 4) dX10_init_1 rfl rm_10_3 (Nat.le_of_ble_eq_true rfl) ?_
  refine go_aload_n (pc' := 5) dX10_init_4 rfl rfl (Nat.le_of_ble_eq_true rfl) ?_
  refine go_new (k := 7) dX10_init_5 rfl (by decide) (by decide +kernel) rfl rfl (by decide) ?_
  refine go_dup (pc' := 9) dX10_init_8 rfl (Nat.ne_of_beq_eq_false rfl) ?_
  refine go_call (kc := 1) (Mc := mt1) (v := none) (pc' := 12) [pvR 7 0 1] [pvR 7 0 1, pvR 10 0 0] (Or.inr (Or.inr (Or.inr (Or.inr rfl)))) dX10_init_9 rfl rm_10_11 mtE1 rfl rfl rfl (Nat.le_of_ble_eq_true rfl) (Or.inr ⟨_, _, 1, rfl, Or.inl rfl⟩) (l_S_new_1 (d + 0) e _) rfl ?_
  refine go_putR (P' := 1) (pc' := 15) dX10_init_12 rfl rf_10_12 rfl rfl rfl ⟨rfl, rfl⟩ ?_
  refine go_aload_n (pc' := 16) dX10_init_15 rfl rfl (Nat.le_of_ble_eq_true rfl) ?_
  refine go_new (k := 4) dX10_init_16 rfl (by decide) (by decide +kernel) rfl rfl (by decide) ?_
  refine go_dup (pc' := 20) dX10_init_19 rfl (Nat.ne_of_beq_eq_false rfl) ?_
  refine go_call (kc := 6) (Mc := mt6) (v := none) (pc' := 23) [pvR 4 0 95] [pvR 4 0 95, pvR 10 0 0] (Or.inr (Or.inr (Or.inr (Or.inr rfl)))) dX10_init_20 rfl rm_10_20 mtE6 rfl rfl rfl (Nat.le_of_ble_eq_true rfl) (Or.inr ⟨_, _, 95, rfl, Or.inl rfl⟩) (l_MS_new_95 (d + 2) e _) rfl ?_
  refine go_putR (P' := 95) (pc' := 26) dX10_init_23 rfl rf_10_21 rfl rfl rfl ⟨rfl, rfl⟩ ?_
  refine go_aload_n (pc' := 27) dX10_init_26 rfl rfl (Nat.le_of_ble_eq_true rfl) ?_
  refine go_new (k := 1) dX10_init_27 rfl (by decide) (by decide +kernel) rfl rfl (by decide) ?_
  refine go_dup (pc' := 31) dX10_init_30 rfl (Nat.ne_of_beq_eq_false rfl) ?_
  refine go_call (kc := 7) (Mc := mt7) (v := none) (pc' := 34) [pvR 1 0 101] [pvR 1 0 101, pvR 10 0 0] (Or.inr (Or.inr (Or.inr (Or.inr rfl)))) dX10_init_31 rfl rm_10_27 mtE7 rfl rfl rfl (Nat.le_of_ble_eq_true rfl) (Or.inr ⟨_, _, 101, rfl, Or.inl rfl⟩) (l_FR_new_101 (d + 2) e _) rfl ?_
  refine go_putR (P' := 101) (pc' := 37) dX10_init_34 rfl rf_10_28 rfl rfl rfl ⟨rfl, rfl⟩ ?_
  refine go_aload_n (pc' := 38) dX10_init_37 rfl rfl (Nat.le_of_ble_eq_true rfl) ?_
  refine go_new (k := 3) dX10_init_38 rfl (by decide) (by decide +kernel) rfl rfl (by decide) ?_
  refine go_dup (pc' := 42) dX10_init_41 rfl (Nat.ne_of_beq_eq_false rfl) ?_
  refine go_call (kc := 8) (Mc := mt8) (v := none) (pc' := 45) [pvR 3 0 108] [pvR 3 0 108, pvR 10 0 0] (Or.inr (Or.inr (Or.inr (Or.inr rfl)))) dX10_init_42 rfl rm_10_34 mtE8 rfl rfl rfl (Nat.le_of_ble_eq_true rfl) (Or.inr ⟨_, _, 108, rfl, Or.inl rfl⟩) (l_K_new_108 (d + 2) e _) rfl ?_
  refine go_putR (P' := 108) (pc' := 48) dX10_init_45 rfl rf_10_35 rfl rfl rfl ⟨rfl, rfl⟩ ?_
  refine go_aload_n (pc' := 49) dX10_init_48 rfl rfl (Nat.le_of_ble_eq_true rfl) ?_
  refine go_new (k := 8) dX10_init_49 rfl (by decide) (by decide +kernel) rfl rfl (by decide) ?_
  refine go_dup (pc' := 53) dX10_init_52 rfl (Nat.ne_of_beq_eq_false rfl) ?_
  refine go_call (kc := 9) (Mc := mt9) (v := none) (pc' := 56) [pvR 8 0 112] [pvR 8 0 112, pvR 10 0 0] (Or.inr (Or.inr (Or.inr (Or.inr rfl)))) dX10_init_53 rfl rm_10_41 mtE9 rfl rfl rfl (Nat.le_of_ble_eq_true rfl) (Or.inr ⟨_, _, 112, rfl, Or.inl rfl⟩) (l_SP_new_112 (d + 2) e _) rfl ?_
  refine go_putR (P' := 112) (pc' := 59) dX10_init_56 rfl rf_10_42 rfl rfl rfl ⟨rfl, rfl⟩ ?_
  refine go_aload_n (pc' := 60) dX10_init_59 rfl rfl (Nat.le_of_ble_eq_true rfl) ?_
  refine go_new (k := 6) dX10_init_60 rfl (by decide) (by decide +kernel) rfl rfl (by decide) ?_
  refine go_dup (pc' := 64) dX10_init_63 rfl (Nat.ne_of_beq_eq_false rfl) ?_
  refine go_aload_n (pc' := 65) dX10_init_64 rfl rfl (Nat.le_of_ble_eq_true rfl) ?_
  refine go_getRC (k' := 7) (L0 := 0) (P' := 1) (pc' := 68) dX10_init_65 rfl rf_10_12 rfl rfl rfl rfl ?_
  refine go_aload_n (pc' := 69) dX10_init_68 rfl rfl (Nat.le_of_ble_eq_true rfl) ?_
  refine go_getRC (k' := 4) (L0 := 0) (P' := 95) (pc' := 72) dX10_init_69 rfl rf_10_21 rfl rfl rfl rfl ?_
  refine go_aload_n (pc' := 73) dX10_init_72 rfl rfl (Nat.le_of_ble_eq_true rfl) ?_
  refine go_getRC (k' := 1) (L0 := 0) (P' := 101) (pc' := 76) dX10_init_73 rfl rf_10_28 rfl rfl rfl rfl ?_
  refine go_call (kc := 10) (Mc := mt10) (v := none) (pc' := 79) [pvR 6 0 116, pvR 7 0 1, pvR 4 0 95, pvR 1 0 101] [pvR 6 0 116, pvR 10 0 0] (Or.inr (Or.inr (Or.inl rfl))) dX10_init_76 rfl rm_10_48 mtE10 rfl rfl rfl (Nat.le_of_ble_eq_true rfl) (Or.inr ⟨_, _, 116, rfl, Or.inl rfl⟩) (l_R_new_116 (d + 2) e _) rfl ?_
  refine go_putR (P' := 116) (pc' := 82) dX10_init_79 rfl rf_10_51 rfl rfl rfl ⟨rfl, rfl⟩ ?_
  refine go_aload_n (pc' := 83) dX10_init_82 rfl rfl (Nat.le_of_ble_eq_true rfl) ?_
  refine go_new (k := 2) dX10_init_83 rfl (by decide) (by decide +kernel) rfl rfl (by decide) ?_
  refine go_dup (pc' := 87) dX10_init_86 rfl (Nat.ne_of_beq_eq_false rfl) ?_
  refine go_call (kc := 11) (Mc := mt11) (v := none) (pc' := 90) [pvR 2 0 125] [pvR 2 0 125, pvR 10 0 0] (Or.inr (Or.inr (Or.inr (Or.inr rfl)))) dX10_init_87 rfl rm_10_57 mtE11 rfl rfl rfl (Nat.le_of_ble_eq_true rfl) (Or.inr ⟨_, _, 125, rfl, Or.inl rfl⟩) (l_F_new_125 (d + 2) e _) rfl ?_
  refine go_putFR (pc' := 93) dX10_init_90 rfl rf_10_58 rfl ?_
  exact go_vret dX10_init_93 rfl rfl

def zBegin : Hp := (zNew (k_C_new_0 (zNew (fun _ _ => 0) 0)) 129)
theorem full_begin : full (false, 130, 0, zBegin) := by
  refine ⟨rfl, ?_⟩
  have h : ∀ p : Fin 130, (List.range (zFld (sh p)).length).all (fun j => match (zFld (sh p))[j]? with | some (4, o) => decide (zBegin p j = p + o) | _ => true) = true := by decide +kernel
  intro p hp j o hj
  have h1 := List.all_eq_true.mp (h ⟨p, hp⟩) j (List.mem_range.mpr (List.getElem?_eq_some_iff.mp hj).1)
  simp only at h1
  rw [hj] at h1
  exact of_decide_eq_true h1
theorem l_start (q : Nat × (Nat → Int32)) (d : Nat) (r : Int × Nat × Nat × Hp) (h : f_L_law q zBegin 171 0 = some r) : Go (some q) (Ev (d + 244)) mt163 0 [some (pvS), none, none, none, none, none, none, none] [] (false, 0, 0, fun _ _ => 0) (0, some (pvI r.1), true, r.2.1, r.2.2.1, r.2.2.2) := by
  have e : Nat := 0
  refine go_new (k := 10) dL_law_0 rfl (by decide) (by decide +kernel) rfl rfl (by decide) ?_
  refine go_dup (pc' := 4) dL_law_3 rfl (Nat.ne_of_beq_eq_false rfl) ?_
  refine go_call (kc := 0) (Mc := mt0) (v := none) (pc' := 7) [pvR 10 0 0] [pvR 10 0 0] (Or.inr (Or.inr (Or.inl rfl))) dL_law_4 rfl rm_12_153 mtE0 rfl rfl rfl (Nat.le_of_ble_eq_true rfl) (Or.inr ⟨_, _, 0, rfl, Or.inl rfl⟩) (l_C_new_0 (d + 240) 0 _) rfl ?_
  refine go_astore_n (L' := [some (pvS), some (pvR 10 0 0), none, none, none, none, none, none]) (pc' := 8) dL_law_7 rfl (Nat.le_of_ble_eq_true rfl) (Nat.le_of_ble_eq_true rfl) rfl ?_
  refine go_iconst (pc' := 9) dL_law_8 rfl (r32_c rfl) ?_
  refine go_newarr (k := 12) (L0 := 5) dL_law_9 rfl (by decide) rfl rfl rfl (by decide) rfl ?_
  refine go_astore_n (L' := [some (pvS), some (pvR 10 0 0), some (pvR 12 5 129), none, none, none, none, none]) (pc' := 12) dL_law_11 rfl (Nat.le_of_ble_eq_true rfl) (Nat.le_of_ble_eq_true rfl) rfl ?_
  refine go_made full_begin ?_
  exact l_L_law q (d + 0) 171 0 zBegin r h

