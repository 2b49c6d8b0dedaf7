/-! ===== links: each function is what its bytecode does ===== -/
set_option maxRecDepth 10000 in
theorem l_M_after_12 (d : Nat) (n : Nat) (e : Nat) (σ : Hp) (x1 : Int) (x2 : Int) {out : Out} : ∀ (F : Nat) (y3 : Int) (y4 : Int) (j14 : Int × Int), f_M_after_12 σ x1 x2 F y3 y4 = some j14 → Go none (Ev (d + 0)) mt177 57 [some (pvR 11 0 129), some (pvI x1), some (pvI x2), some (pvI j14.1), some (pvI j14.2)] [] (true, n, e, σ) out → Go none (Ev (d + 0)) mt177 12 [some (pvR 11 0 129), some (pvI x1), some (pvI x2), some (pvI y3), some (pvI y4)] [] (true, n, e, σ) out := by
  intro F
  induction F with
  | zero =>
    intro _ _ _ h
    intro _
    rw [f_M_after_12] at h
    cases h
  | succ F ih =>
    intro y3 y4 j14 h hx
    rw [f_M_after_12] at h
    refine go_iload (pc' := 14) dX11_after_12 rfl rfl ?_
    refine go_iload_n (pc' := 15) dX11_after_14 rfl rfl ?_
    refine go_icmp_lt (t := 57) (pc' := 18) dX11_after_15 rfl rfl (fun c13 => ?_) (fun c13 => ?_)
    · rw [if_pos (show y4 < x2 from c13)] at h
      cases h
      exact hx
    · rw [if_neg (show ¬ (y4 < x2) from c13)] at h
      refine go_iload (pc' := 20) dX11_after_18 rfl rfl ?_
      obtain ⟨j5, k6, h⟩ := bd h
      have k6J : Go none (Ev (d + 0)) mt177 50 [some (pvR 11 0 129), some (pvI x1), some (pvI x2), some (pvI y3), some (pvI y4)] [pvI j5] (true, n, e, σ) out := by
        refine go_istore_n (L' := [some (pvR 11 0 129), some (pvI x1), some (pvI x2), some (pvI j5), some (pvI y4)]) (pc' := 51) dX11_after_50 rfl (Nat.le_of_ble_eq_true rfl) rfl ?_
        obtain ⟨g11, h⟩ := gd h
        refine go_iinc (L' := [some (pvR 11 0 129), some (pvI x1), some (pvI x2), some (pvI j5), some (pvI (y4 + (-1)))]) (pc' := 54) dX11_after_51 rfl rfl g11 rfl ?_
        refine go_goto (t := 12) dX11_after_54 rfl ?_
        exact ih j5 (y4 + (-1)) _ h hx
      clear h
      have h := k6
      refine go_if_le (t := 49) (pc' := 23) dX11_after_20 rfl rfl (fun c12 => ?_) (fun c12 => ?_)
      · rw [if_pos (show y4 ≤ 0 from c12)] at h
        refine go_iload_n (pc' := 50) dX11_after_49 rfl rfl ?_
        cases h
        exact k6J
      · rw [if_neg (show ¬ (y4 ≤ 0) from c12)] at h
        refine go_aload_n (pc' := 24) dX11_after_23 rfl rfl (Nat.le_of_ble_eq_true rfl) ?_
        refine go_getR (k' := 12) (L0 := 36) (P' := 131) (pc' := 27) dX11_after_24 rfl rf_11_15 rfl rfl (by omega) ?_
        refine go_iload (pc' := 29) dX11_after_27 rfl rfl ?_
        obtain ⟨g7, h⟩ := gd h
        refine go_iald (pc' := 30) dX11_after_29 rfl g7 ?_
        refine go_if_ne (t := 49) (pc' := 33) dX11_after_30 rfl rfl (fun c10 => ?_) (fun c10 => ?_)
        · rw [if_pos (show (σ 131 y4) ≠ 0 from c10)] at h
          refine go_iload_n (pc' := 50) dX11_after_49 rfl rfl ?_
          cases h
          exact k6J
        · rw [if_neg (show ¬ ((σ 131 y4) ≠ 0) from c10)] at h
          refine go_aload_n (pc' := 34) dX11_after_33 rfl rfl (Nat.le_of_ble_eq_true rfl) ?_
          refine go_getR (k' := 12) (L0 := 36) (P' := 132) (pc' := 37) dX11_after_34 rfl rf_11_18 rfl rfl (by omega) ?_
          refine go_iload (pc' := 39) dX11_after_37 rfl rfl ?_
          obtain ⟨g8, h⟩ := gd h
          refine go_iald (pc' := 40) dX11_after_39 rfl g8 ?_
          refine go_iload_n (pc' := 41) dX11_after_40 rfl rfl ?_
          refine go_icmp_ne (t := 49) (pc' := 44) dX11_after_41 rfl rfl (fun c9 => ?_) (fun c9 => ?_)
          · rw [if_pos (show (σ 132 y4) ≠ x1 from c9)] at h
            refine go_iload_n (pc' := 50) dX11_after_49 rfl rfl ?_
            cases h
            exact k6J
          · rw [if_neg (show ¬ ((σ 132 y4) ≠ x1) from c9)] at h
            refine go_iload (pc' := 46) dX11_after_44 rfl rfl ?_
            refine go_goto (t := 50) dX11_after_46 rfl ?_
            cases h
            exact k6J

set_option maxRecDepth 10000 in
theorem l_M_after (d : Nat) (n e : Nat) (σ : Hp) (x1 : Int) (x2 : Int) (r : Int) (h : f_M_after σ x1 x2 = some r) : Ev (d + 1) 177 [pvR 11 0 129, pvI x1, pvI x2] (true, n, e, σ) (0, some (pvI r), true, n, e, σ) := by
  unfold f_M_after at h
  refine Ev.of mtE177 rfl rfl rfl rfl ?_
  show Go none (Ev (d + 0)) mt177 0 [some (pvR 11 0 129), some (pvI x1), some (pvI x2), none, none] [] (true, n, e, σ) (0, some (pvI r), true, n, e, σ)
  refine go_iconst (pc' := 1) dX11_after_0 rfl (r32_c rfl) ?_
  refine go_istore_n (L' := [some (pvR 11 0 129), some (pvI x1), some (pvI x2), some (pvI (-1)), none]) (pc' := 2) dX11_after_1 rfl (Nat.le_of_ble_eq_true rfl) rfl ?_
  refine go_aload_n (pc' := 3) dX11_after_2 rfl rfl (Nat.le_of_ble_eq_true rfl) ?_
  refine go_getR (k' := 12) (L0 := 3) (P' := 130) (pc' := 6) dX11_after_3 rfl rf_11_9 rfl rfl (by omega) ?_
  refine go_iconst (pc' := 7) dX11_after_6 rfl (r32_c rfl) ?_
  obtain ⟨g1, h⟩ := gd h
  refine go_iald (pc' := 8) dX11_after_7 rfl g1 ?_
  refine go_iconst (pc' := 9) dX11_after_8 rfl (r32_c rfl) ?_
  obtain ⟨g2, h⟩ := gd h
  refine go_isub (pc' := 10) dX11_after_9 rfl g2 ?_
  refine go_istore (L' := [some (pvR 11 0 129), some (pvI x1), some (pvI x2), some (pvI (-1)), some (pvI ((σ 130 0) - 1))]) (pc' := 12) dX11_after_10 rfl (Nat.le_of_ble_eq_true rfl) rfl ?_
  obtain ⟨j15, k16, h⟩ := bd h
  refine l_M_after_12 d n e σ x1 x2 zFuel (-1) ((σ 130 0) - 1) _ k16 ?_
  refine go_iload_n (pc' := 58) dX11_after_57 rfl rfl ?_
  cases h
  exact go_iret dX11_after_58 rfl rfl

set_option maxRecDepth 10000 in
theorem l_M_stand_25 (d : Nat) (n : Nat) (e : Nat) (y1 : Int) (y2 : Int) (σ3 : Hp) {out : Out} : ∀ (F : Nat) (y8 : Int) (y9 : Int) (j17 : Int × Int), f_M_stand_25 y1 y2 σ3 F y8 y9 = some j17 → Go none (Ev (d + 1)) mt176 57 [some (pvR 11 0 129), some (pvI j17.1), some (pvI (y2 + 1)), some (pvI j17.2)] [] (true, n, e, (hset σ3 145 y1 y2)) out → Go none (Ev (d + 1)) mt176 25 [some (pvR 11 0 129), some (pvI y8), some (pvI (y2 + 1)), some (pvI y9)] [] (true, n, e, (hset σ3 145 y1 y2)) out := by
  intro F
  induction F with
  | zero =>
    intro _ _ _ h
    intro _
    rw [f_M_stand_25] at h
    cases h
  | succ F ih =>
    intro y8 y9 j17 h hx
    rw [f_M_stand_25] at h
    refine go_iload_n (pc' := 26) dX11_stand_25 rfl rfl ?_
    refine go_if_ge (t := 57) (pc' := 29) dX11_stand_26 rfl rfl (fun c16 => ?_) (fun c16 => ?_)
    · rw [if_pos (show 0 ≤ y9 from c16)] at h
      cases h
      exact hx
    · rw [if_neg (show ¬ (0 ≤ y9) from c16)] at h
      refine go_iload_n (pc' := 30) dX11_stand_29 rfl rfl ?_
      refine go_if_le (t := 57) (pc' := 33) dX11_stand_30 rfl rfl (fun c15 => ?_) (fun c15 => ?_)
      · rw [if_pos (show y8 ≤ 0 from c15)] at h
        cases h
        exact hx
      · rw [if_neg (show ¬ (y8 ≤ 0) from c15)] at h
        refine go_aload_n (pc' := 34) dX11_stand_33 rfl rfl (Nat.le_of_ble_eq_true rfl) ?_
        refine go_aload_n (pc' := 35) dX11_stand_34 rfl rfl (Nat.le_of_ble_eq_true rfl) ?_
        refine go_getR (k' := 12) (L0 := 36) (P' := 132) (pc' := 38) dX11_stand_35 rfl rf_11_18 rfl rfl (by omega) ?_
        refine go_iload_n (pc' := 39) dX11_stand_38 rfl rfl ?_
        obtain ⟨g10, h⟩ := gd h
        refine go_iald (pc' := 40) dX11_stand_39 rfl g10 ?_
        refine go_iload_n (pc' := 41) dX11_stand_40 rfl rfl ?_
        refine go_iconst (pc' := 42) dX11_stand_41 rfl (r32_c rfl) ?_
        obtain ⟨g11, h⟩ := gd h
        refine go_iadd (pc' := 43) dX11_stand_42 rfl g11 ?_
        obtain ⟨v12, k13, h⟩ := bd h
        have k13 := l_M_after (d + 0) n e (hset σ3 145 y1 y2) ((hset σ3 145 y1 y2) 132 y8) (y8 + 1) _ k13
        refine go_call (kc := 177) (Mc := mt177) (v := some (pvI v12)) (w' := (true, n, e, (hset σ3 145 y1 y2))) (pc' := 46) (st' := [pvI v12]) [pvR 11 0 129, pvI ((hset σ3 145 y1 y2) 132 y8), pvI (y8 + 1)] [] (Or.inl rfl) dX11_stand_43 rfl rm_11_177 mtE177 rfl rfl rfl (Nat.le_of_ble_eq_true rfl) (Or.inr ⟨_, _, 129, rfl, Or.inl rfl⟩) k13 rfl ?_
        refine go_istore_n (L' := [some (pvR 11 0 129), some (pvI y8), some (pvI (y2 + 1)), some (pvI v12)]) (pc' := 47) dX11_stand_46 rfl (Nat.le_of_ble_eq_true rfl) rfl ?_
        refine go_aload_n (pc' := 48) dX11_stand_47 rfl rfl (Nat.le_of_ble_eq_true rfl) ?_
        refine go_getR (k' := 12) (L0 := 36) (P' := 132) (pc' := 51) dX11_stand_48 rfl rf_11_18 rfl rfl (by omega) ?_
        refine go_iload_n (pc' := 52) dX11_stand_51 rfl rfl ?_
        obtain ⟨g14, h⟩ := gd h
        refine go_iald (pc' := 53) dX11_stand_52 rfl g14 ?_
        refine go_istore_n (L' := [some (pvR 11 0 129), some (pvI ((hset σ3 145 y1 y2) 132 y8)), some (pvI (y2 + 1)), some (pvI v12)]) (pc' := 54) dX11_stand_53 rfl (Nat.le_of_ble_eq_true rfl) rfl ?_
        refine go_goto (t := 25) dX11_stand_54 rfl ?_
        exact ih ((hset σ3 145 y1 y2) 132 y8) v12 _ h hx

set_option maxRecDepth 10000 in
theorem l_M_stand_4 (d : Nat) (n : Nat) (e : Nat)  {out : Out} : ∀ (F : Nat) (y1 : Int) (y2 : Int) (σ3 : Hp) (j21 : Int × Int × Hp), f_M_stand_4 F y1 y2 σ3 = some j21 → Go none (Ev (d + 1)) mt176 62 [some (pvR 11 0 129), some (pvI j21.1), some (pvI j21.2.1), none] [] (true, n, e, j21.2.2) out → Go none (Ev (d + 1)) mt176 4 [some (pvR 11 0 129), some (pvI y1), some (pvI y2), none] [] (true, n, e, σ3) out := by
  intro F
  induction F with
  | zero =>
    intro _ _ _ _ h
    intro _
    rw [f_M_stand_4] at h
    cases h
  | succ F ih =>
    intro y1 y2 σ3 j21 h hx
    rw [f_M_stand_4] at h
    refine go_iload_n (pc' := 5) dX11_stand_4 rfl rfl ?_
    refine go_if_lt (t := 62) (pc' := 8) dX11_stand_5 rfl rfl (fun c20 => ?_) (fun c20 => ?_)
    · rw [if_pos (show y1 < 0 from c20)] at h
      cases h
      exact hx
    · rw [if_neg (show ¬ (y1 < 0) from c20)] at h
      refine go_aload_n (pc' := 9) dX11_stand_8 rfl rfl (Nat.le_of_ble_eq_true rfl) ?_
      refine go_getR (k' := 12) (L0 := 12) (P' := 145) (pc' := 12) dX11_stand_9 rfl rf_11_57 rfl rfl (by omega) ?_
      refine go_iload_n (pc' := 13) dX11_stand_12 rfl rfl ?_
      refine go_iload_n (pc' := 14) dX11_stand_13 rfl rfl ?_
      obtain ⟨g4, h⟩ := gd h
      refine go_iast (pc' := 15) dX11_stand_14 rfl g4 ?_
      obtain ⟨g5, h⟩ := gd h
      refine go_iinc (L' := [some (pvR 11 0 129), some (pvI y1), some (pvI (y2 + 1)), none]) (pc' := 18) dX11_stand_15 rfl rfl g5 rfl ?_
      refine go_aload_n (pc' := 19) dX11_stand_18 rfl rfl (Nat.le_of_ble_eq_true rfl) ?_
      refine go_iload_n (pc' := 20) dX11_stand_19 rfl rfl ?_
      refine go_iconst (pc' := 21) dX11_stand_20 rfl (r32_c rfl) ?_
      obtain ⟨v6, k7, h⟩ := bd h
      have k7 := l_M_after (d + 0) n e (hset σ3 145 y1 y2) y1 0 _ k7
      refine go_call (kc := 177) (Mc := mt177) (v := some (pvI v6)) (w' := (true, n, e, (hset σ3 145 y1 y2))) (pc' := 24) (st' := [pvI v6]) [pvR 11 0 129, pvI y1, pvI 0] [] (Or.inl rfl) dX11_stand_21 rfl rm_11_177 mtE177 rfl rfl rfl (Nat.le_of_ble_eq_true rfl) (Or.inr ⟨_, _, 129, rfl, Or.inl rfl⟩) k7 rfl ?_
      refine go_istore_n (L' := [some (pvR 11 0 129), some (pvI y1), some (pvI (y2 + 1)), some (pvI v6)]) (pc' := 25) dX11_stand_24 rfl (Nat.le_of_ble_eq_true rfl) rfl ?_
      obtain ⟨j18, k19, h⟩ := bd h
      refine l_M_stand_25 d n e y1 y2 σ3 zFuel y1 v6 _ k19 ?_
      refine go_iload_n (pc' := 58) dX11_stand_57 rfl rfl ?_
      refine go_istore_n (L' := [some (pvR 11 0 129), some (pvI j18.2), some (pvI (y2 + 1)), some (pvI j18.2)]) (pc' := 59) dX11_stand_58 rfl (Nat.le_of_ble_eq_true rfl) rfl ?_
      refine go_goto (t := 4) dX11_stand_59 rfl ?_
      exact go_sub (ih j18.2 (y2 + 1) (hset σ3 145 y1 y2) _ h hx) ⟨Or.inr rfl, Or.inr rfl, Or.inr rfl, Or.inl rfl, trivial⟩

set_option maxRecDepth 10000 in
theorem l_M_stand (d : Nat) (n e : Nat) (σ : Hp) (r : Hp) (h : f_M_stand σ = some r) : Ev (d + 2) 176 [pvR 11 0 129] (true, n, e, σ) (0, none, true, n, e, r) := by
  unfold f_M_stand at h
  refine Ev.of mtE176 rfl rfl rfl rfl ?_
  show Go none (Ev (d + 1)) mt176 0 [some (pvR 11 0 129), none, none, none] [] (true, n, e, σ) (0, none, true, n, e, r)
  refine go_iconst (pc' := 1) dX11_stand_0 rfl (r32_c rfl) ?_
  refine go_istore_n (L' := [some (pvR 11 0 129), some (pvI 0), none, none]) (pc' := 2) dX11_stand_1 rfl (Nat.le_of_ble_eq_true rfl) rfl ?_
  refine go_iconst (pc' := 3) dX11_stand_2 rfl (r32_c rfl) ?_
  refine go_istore_n (L' := [some (pvR 11 0 129), some (pvI 0), some (pvI 0), none]) (pc' := 4) dX11_stand_3 rfl (Nat.le_of_ble_eq_true rfl) rfl ?_
  obtain ⟨j22, k23, h⟩ := bd h
  refine l_M_stand_4 d n e zFuel 0 0 σ _ k23 ?_
  cases h
  exact go_vret dX11_stand_62 rfl rfl

set_option maxRecDepth 10000 in
theorem l_M_fresh (d : Nat) (n e : Nat) (σ : Hp) (r : Hp) (h : f_M_fresh σ = some r) : Ev (d + 1) 178 [pvR 11 0 129] (true, n, e, σ) (0, none, true, n, e, r) := by
  unfold f_M_fresh at h
  refine Ev.of mtE178 rfl rfl rfl rfl ?_
  show Go none (Ev (d + 0)) mt178 0 [some (pvR 11 0 129)] [] (true, n, e, σ) (0, none, true, n, e, r)
  refine go_aload_n (pc' := 1) dX11_fresh_0 rfl rfl (Nat.le_of_ble_eq_true rfl) ?_
  refine go_iconst (pc' := 2) dX11_fresh_1 rfl (r32_c rfl) ?_
  refine go_putI (pc' := 5) dX11_fresh_2 rfl rf_11_163 rfl ?_
  refine go_aload_n (pc' := 6) dX11_fresh_5 rfl rfl (Nat.le_of_ble_eq_true rfl) ?_
  refine go_dup (pc' := 7) dX11_fresh_6 rfl (Nat.ne_of_beq_eq_false rfl) ?_
  refine go_getI (pc' := 10) dX11_fresh_7 rfl rf_11_113 rfl ?_
  refine go_iconst (pc' := 11) dX11_fresh_10 rfl (r32_c rfl) ?_
  obtain ⟨g1, h⟩ := gd h
  refine go_iadd (pc' := 12) dX11_fresh_11 rfl g1 ?_
  refine go_putI (pc' := 15) dX11_fresh_12 rfl rf_11_113 rfl ?_
  cases h
  exact go_vret dX11_fresh_15 rfl rfl

set_option maxRecDepth 10000 in
theorem l_M_member (d : Nat) (n e : Nat) (σ : Hp) (x1 : Int) (x2 : Int) (x3 : Int) (r : Int × Hp) (h : f_M_member σ x1 x2 x3 = some r) : Ev (d + 4) 169 [pvR 11 0 129, pvI x1, pvI x2, pvI x3] (true, n, e, σ) (0, some (pvI r.1), true, n, e, r.2) := by
  unfold f_M_member at h
  refine Ev.of mtE169 rfl rfl rfl rfl ?_
  show Go none (Ev (d + 3)) mt169 0 [some (pvR 11 0 129), some (pvI x1), some (pvI x2), some (pvI x3), none, none, none] [] (true, n, e, σ) (0, some (pvI r.1), true, n, e, r.2)
  refine go_aload_n (pc' := 1) dX11_member_0 rfl rfl (Nat.le_of_ble_eq_true rfl) ?_
  refine go_iload_n (pc' := 2) dX11_member_1 rfl rfl ?_
  refine go_iload_n (pc' := 3) dX11_member_2 rfl rfl ?_
  obtain ⟨v1, k2, h⟩ := bd h
  have k2 := l_M_is (d + 0) n e σ x1 x2 _ k2
  refine go_call (kc := 170) (Mc := mt170) (v := some (pvI v1)) (w' := (true, n, e, σ)) (pc' := 6) (st' := [pvI v1]) [pvR 11 0 129, pvI x1, pvI x2] [] (Or.inl rfl) dX11_member_3 rfl rm_11_156 mtE170 rfl rfl rfl (Nat.le_of_ble_eq_true rfl) (Or.inr ⟨_, _, 129, rfl, Or.inl rfl⟩) k2 rfl ?_
  refine go_istore (L' := [some (pvR 11 0 129), some (pvI x1), some (pvI x2), some (pvI x3), some (pvI v1), none, none]) (pc' := 8) dX11_member_6 rfl (Nat.le_of_ble_eq_true rfl) rfl ?_
  refine go_iload (pc' := 10) dX11_member_8 rfl rfl ?_
  obtain ⟨j3, k4, h⟩ := bd h
  have k4J : Go none (Ev (d + 3)) mt169 38 [some (pvR 11 0 129), some (pvI x1), some (pvI x2), some (pvI x3), some (pvI v1), none, none] [pvI j3] (true, n, e, σ) (0, some (pvI r.1), true, n, e, r.2) := by
    refine go_istore (L' := [some (pvR 11 0 129), some (pvI x1), some (pvI x2), some (pvI x3), some (pvI v1), some (pvI j3), none]) (pc' := 40) dX11_member_38 rfl (Nat.le_of_ble_eq_true rfl) rfl ?_
    refine go_aload_n (pc' := 41) dX11_member_40 rfl rfl (Nat.le_of_ble_eq_true rfl) ?_
    refine go_iload (pc' := 43) dX11_member_41 rfl rfl ?_
    obtain ⟨j10, k11, h⟩ := bd h
    have k11J : Go none (Ev (d + 3)) mt169 77 [some (pvR 11 0 129), some (pvI x1), some (pvI x2), some (pvI x3), some (pvI v1), some (pvI j3), none] [pvI j10, pvR 11 0 129] (true, n, e, σ) (0, some (pvI r.1), true, n, e, r.2) := by
      obtain ⟨v16, k17, h⟩ := bd h
      have k17 := l_M_holds (d + 2) n e σ j10 _ k17
      refine go_call (kc := 174) (Mc := mt174) (v := some (pvI v16.1)) (w' := (true, n, e, v16.2)) (pc' := 80) (st' := [pvI v16.1]) [pvR 11 0 129, pvI j10] [] (Or.inl rfl) dX11_member_77 rfl rm_11_185 mtE174 rfl rfl rfl (Nat.le_of_ble_eq_true rfl) (Or.inr ⟨_, _, 129, rfl, Or.inl rfl⟩) k17 rfl ?_
      refine go_if_eq (t := 85) (pc' := 83) dX11_member_80 rfl rfl (fun c30 => ?_) (fun c30 => ?_)
      · rw [if_pos (show v16.1 = 0 from c30)] at h
        refine go_aload_n (pc' := 86) dX11_member_85 rfl rfl (Nat.le_of_ble_eq_true rfl) ?_
        refine go_iload_n (pc' := 87) dX11_member_86 rfl rfl ?_
        refine go_iconst (pc' := 88) dX11_member_87 rfl (r32_c rfl) ?_
        obtain ⟨v18, k19, h⟩ := bd h
        have k19 := l_M_make (d + 2) n e v16.2 x1 0 _ k19
        refine go_call (kc := 175) (Mc := mt175) (v := some (pvI v18.1)) (w' := (true, n, e, v18.2)) (pc' := 91) (st' := [pvI v18.1]) [pvR 11 0 129, pvI x1, pvI 0] [] (Or.inl rfl) dX11_member_88 rfl rm_11_188 mtE175 rfl rfl rfl (Nat.le_of_ble_eq_true rfl) (Or.inr ⟨_, _, 129, rfl, Or.inl rfl⟩) k19 rfl ?_
        refine go_istore (L' := [some (pvR 11 0 129), some (pvI x1), some (pvI x2), some (pvI x3), some (pvI v1), some (pvI j3), some (pvI v18.1)]) (pc' := 93) dX11_member_91 rfl (Nat.le_of_ble_eq_true rfl) rfl ?_
        refine go_aload_n (pc' := 94) dX11_member_93 rfl rfl (Nat.le_of_ble_eq_true rfl) ?_
        refine go_getR (k' := 12) (L0 := 36) (P' := 132) (pc' := 97) dX11_member_94 rfl rf_11_18 rfl rfl (by omega) ?_
        refine go_bipush (pc' := 99) dX11_member_97 rfl (r32_c rfl) (by decide) ?_
        refine go_iload_n (pc' := 100) dX11_member_99 rfl rfl ?_
        obtain ⟨g20, h⟩ := gd h
        refine go_imul (pc' := 101) dX11_member_100 rfl g20 ?_
        refine go_iload (pc' := 103) dX11_member_101 rfl rfl ?_
        obtain ⟨g21, h⟩ := gd h
        refine go_iadd (pc' := 104) dX11_member_103 rfl g21 ?_
        refine go_iload_n (pc' := 105) dX11_member_104 rfl rfl ?_
        obtain ⟨g22, h⟩ := gd h
        refine go_iast (pc' := 106) dX11_member_105 rfl g22 ?_
        refine go_aload_n (pc' := 107) dX11_member_106 rfl rfl (Nat.le_of_ble_eq_true rfl) ?_
        refine go_getR (k' := 12) (L0 := 36) (P' := 133) (pc' := 110) dX11_member_107 rfl rf_11_21 rfl rfl (by omega) ?_
        refine go_bipush (pc' := 112) dX11_member_110 rfl (r32_c rfl) (by decide) ?_
        refine go_iload_n (pc' := 113) dX11_member_112 rfl rfl ?_
        obtain ⟨g23, h⟩ := gd h
        refine go_imul (pc' := 114) dX11_member_113 rfl g23 ?_
        refine go_iload (pc' := 116) dX11_member_114 rfl rfl ?_
        obtain ⟨g24, h⟩ := gd h
        refine go_iadd (pc' := 117) dX11_member_116 rfl g24 ?_
        refine go_iload_n (pc' := 118) dX11_member_117 rfl rfl ?_
        obtain ⟨g25, h⟩ := gd h
        refine go_iast (pc' := 119) dX11_member_118 rfl g25 ?_
        refine go_aload_n (pc' := 120) dX11_member_119 rfl rfl (Nat.le_of_ble_eq_true rfl) ?_
        obtain ⟨v26, k27, h⟩ := bd h
        have k27 := l_M_stand (d + 1) n e (hset (hset v18.2 132 ((12 * x1) + v18.1) x2) 133 ((12 * x1) + v18.1) x3) _ k27
        refine go_call (kc := 176) (Mc := mt176) (v := none) (w' := (true, n, e, v26)) (pc' := 123) (st' := []) [pvR 11 0 129] [] (Or.inl rfl) dX11_member_120 rfl rm_11_191 mtE176 rfl rfl rfl (Nat.le_of_ble_eq_true rfl) (Or.inr ⟨_, _, 129, rfl, Or.inl rfl⟩) k27 rfl ?_
        refine go_aload_n (pc' := 124) dX11_member_123 rfl rfl (Nat.le_of_ble_eq_true rfl) ?_
        obtain ⟨v28, k29, h⟩ := bd h
        have k29 := l_M_fresh (d + 2) n e v26 _ k29
        refine go_call (kc := 178) (Mc := mt178) (v := none) (w' := (true, n, e, v28)) (pc' := 127) (st' := []) [pvR 11 0 129] [] (Or.inl rfl) dX11_member_124 rfl rm_11_194 mtE178 rfl rfl rfl (Nat.le_of_ble_eq_true rfl) (Or.inr ⟨_, _, 129, rfl, Or.inl rfl⟩) k29 rfl ?_
        refine go_iload (pc' := 129) dX11_member_127 rfl rfl ?_
        cases h
        exact go_iret dX11_member_129 rfl rfl
      · rw [if_neg (show ¬ (v16.1 = 0) from c30)] at h
        refine go_iconst (pc' := 84) dX11_member_83 rfl (r32_c rfl) ?_
        cases h
        exact go_iret dX11_member_84 rfl rfl
    clear h
    have h := k11
    refine go_if_ne (t := 50) (pc' := 46) dX11_member_43 rfl rfl (fun c31 => ?_) (fun c31 => ?_)
    · rw [if_pos (show v1 ≠ 0 from c31)] at h
      refine go_aload_n (pc' := 51) dX11_member_50 rfl rfl (Nat.le_of_ble_eq_true rfl) ?_
      refine go_iload_n (pc' := 52) dX11_member_51 rfl rfl ?_
      refine go_i2l (pc' := 53) dX11_member_52 rfl ?_
      refine go_ldc2 (pc' := 56) dX11_member_53 rfl (r64_c rfl) rc_11_183 ?_
      refine go_lconst (z := 1) (pc' := 57) dX11_member_56 rfl rfl ?_
      obtain ⟨v12, k13, h⟩ := bd h
      have k13 := l_M_in (d + 2) n e σ x3 (-1) 1 _ k13
      refine go_call (kc := 172) (Mc := mt172) (v := some (pvI v12)) (w' := (true, n, e, σ)) (pc' := 60) (st' := [pvI v12, pvR 11 0 129]) [pvR 11 0 129, pvL x3, pvL (-1), pvL 1] [pvR 11 0 129] (Or.inl rfl) dX11_member_57 rfl rm_11_145 mtE172 rfl rfl rfl (Nat.le_of_ble_eq_true rfl) (Or.inr ⟨_, _, 129, rfl, Or.inl rfl⟩) k13 rfl ?_
      refine go_if_ne (t := 67) (pc' := 63) dX11_member_60 rfl rfl (fun c15 => ?_) (fun c15 => ?_)
      · rw [if_pos (show v12 ≠ 0 from c15)] at h
        refine go_iload (pc' := 69) dX11_member_67 rfl rfl ?_
        refine go_if_eq (t := 76) (pc' := 72) dX11_member_69 rfl rfl (fun c14 => ?_) (fun c14 => ?_)
        · rw [if_pos (show j3 = 0 from c14)] at h
          refine go_iconst (pc' := 77) dX11_member_76 rfl (r32_c rfl) ?_
          cases h
          exact k11J
        · rw [if_neg (show ¬ (j3 = 0) from c14)] at h
          refine go_iconst (pc' := 73) dX11_member_72 rfl (r32_c rfl) ?_
          refine go_goto (t := 77) dX11_member_73 rfl ?_
          cases h
          exact k11J
      · rw [if_neg (show ¬ (v12 ≠ 0) from c15)] at h
        refine go_iconst (pc' := 64) dX11_member_63 rfl (r32_c rfl) ?_
        refine go_goto (t := 77) dX11_member_64 rfl ?_
        cases h
        exact k11J
    · rw [if_neg (show ¬ (v1 ≠ 0) from c31)] at h
      refine go_iconst (pc' := 47) dX11_member_46 rfl (r32_c rfl) ?_
      refine go_goto (t := 77) dX11_member_47 rfl ?_
      cases h
      exact k11J
  clear h
  have h := k4
  refine go_if_eq (t := 37) (pc' := 13) dX11_member_10 rfl rfl (fun c32 => ?_) (fun c32 => ?_)
  · rw [if_pos (show v1 = 0 from c32)] at h
    refine go_iconst (pc' := 38) dX11_member_37 rfl (r32_c rfl) ?_
    cases h
    exact k4J
  · rw [if_neg (show ¬ (v1 = 0) from c32)] at h
    refine go_aload_n (pc' := 14) dX11_member_13 rfl rfl (Nat.le_of_ble_eq_true rfl) ?_
    refine go_iload_n (pc' := 15) dX11_member_14 rfl rfl ?_
    refine go_iload_n (pc' := 16) dX11_member_15 rfl rfl ?_
    obtain ⟨v5, k6, h⟩ := bd h
    have k6 := l_M_isPlain (d + 2) n e σ x1 x2 _ k6
    refine go_call (kc := 173) (Mc := mt173) (v := some (pvI v5)) (w' := (true, n, e, σ)) (pc' := 19) (st' := [pvI v5]) [pvR 11 0 129, pvI x1, pvI x2] [] (Or.inl rfl) dX11_member_16 rfl rm_11_180 mtE173 rfl rfl rfl (Nat.le_of_ble_eq_true rfl) (Or.inr ⟨_, _, 129, rfl, Or.inl rfl⟩) k6 rfl ?_
    refine go_if_eq (t := 33) (pc' := 22) dX11_member_19 rfl rfl (fun c9 => ?_) (fun c9 => ?_)
    · rw [if_pos (show v5 = 0 from c9)] at h
      refine go_iconst (pc' := 34) dX11_member_33 rfl (r32_c rfl) ?_
      refine go_goto (t := 38) dX11_member_34 rfl ?_
      cases h
      exact k4J
    · rw [if_neg (show ¬ (v5 = 0) from c9)] at h
      refine go_aload_n (pc' := 23) dX11_member_22 rfl rfl (Nat.le_of_ble_eq_true rfl) ?_
      refine go_getR (k' := 12) (L0 := 3) (P' := 130) (pc' := 26) dX11_member_23 rfl rf_11_9 rfl rfl (by omega) ?_
      refine go_iload_n (pc' := 27) dX11_member_26 rfl rfl ?_
      obtain ⟨g7, h⟩ := gd h
      refine go_iald (pc' := 28) dX11_member_27 rfl g7 ?_
      refine go_bipush (pc' := 30) dX11_member_28 rfl (r32_c rfl) (by decide) ?_
      refine go_icmp_ne (t := 37) (pc' := 33) dX11_member_30 rfl rfl (fun c8 => ?_) (fun c8 => ?_)
      · rw [if_pos (show (σ 130 x1) ≠ 12 from c8)] at h
        refine go_iconst (pc' := 38) dX11_member_37 rfl (r32_c rfl) ?_
        cases h
        exact k4J
      · rw [if_neg (show ¬ ((σ 130 x1) ≠ 12) from c8)] at h
        refine go_iconst (pc' := 34) dX11_member_33 rfl (r32_c rfl) ?_
        refine go_goto (t := 38) dX11_member_34 rfl ?_
        cases h
        exact k4J

set_option maxRecDepth 10000 in
theorem l_M_bridge_50 (d : Nat) (n : Nat) (e : Nat) (σ : Hp) (x1 : Int) (x2 : Int) (j5 : Int) (v1 : Int) {out : Out} : ∀ (F : Nat) (y10 : Int) (y11 : Int) (y12 : Int) (j24 : Int × Int × Int), f_M_bridge_50 σ x1 x2 j5 v1 F y10 y11 y12 = some j24 → Go none (Ev (d + 2)) mt179 112 [some (pvR 11 0 129), some (pvI x1), some (pvI x2), some (pvI v1), some (pvI j5), some (pvI j24.1), some (pvI j24.2.1), some (pvI j24.2.2)] [] (true, n, e, σ) out → Go none (Ev (d + 2)) mt179 50 [some (pvR 11 0 129), some (pvI x1), some (pvI x2), some (pvI v1), some (pvI j5), some (pvI y10), some (pvI y11), some (pvI y12)] [] (true, n, e, σ) out := by
  intro F
  induction F with
  | zero =>
    intro _ _ _ _ h
    intro _
    rw [f_M_bridge_50] at h
    cases h
  | succ F ih =>
    intro y10 y11 y12 j24 h hx
    rw [f_M_bridge_50] at h
    refine go_iload (pc' := 52) dX11_bridge_50 rfl rfl ?_
    refine go_bipush (pc' := 54) dX11_bridge_52 rfl (r32_c rfl) (by decide) ?_
    refine go_icmp_ge (t := 112) (pc' := 57) dX11_bridge_54 rfl rfl (fun c23 => ?_) (fun c23 => ?_)
    · rw [if_pos (show 12 ≤ y12 from c23)] at h
      cases h
      exact hx
    · rw [if_neg (show ¬ (12 ≤ y12) from c23)] at h
      refine go_iload (pc' := 59) dX11_bridge_57 rfl rfl ?_
      refine go_if_eq (t := 112) (pc' := 62) dX11_bridge_59 rfl rfl (fun c22 => ?_) (fun c22 => ?_)
      · rw [if_pos (show j5 = 0 from c22)] at h
        cases h
        exact hx
      · rw [if_neg (show ¬ (j5 = 0) from c22)] at h
        refine go_iload_n (pc' := 63) dX11_bridge_62 rfl rfl ?_
        refine go_if_eq (t := 112) (pc' := 66) dX11_bridge_63 rfl rfl (fun c21 => ?_) (fun c21 => ?_)
        · rw [if_pos (show v1 = 0 from c21)] at h
          cases h
          exact hx
        · rw [if_neg (show ¬ (v1 = 0) from c21)] at h
          refine go_iload (pc' := 68) dX11_bridge_66 rfl rfl ?_
          refine go_iload_n (pc' := 69) dX11_bridge_68 rfl rfl ?_
          refine go_iload (pc' := 71) dX11_bridge_69 rfl rfl ?_
          refine go_ishr (pc' := 72) dX11_bridge_71 rfl ?_
          refine go_iconst (pc' := 73) dX11_bridge_72 rfl (r32_c rfl) ?_
          refine go_iand (pc' := 74) dX11_bridge_73 rfl ?_
          obtain ⟨g13, h⟩ := gd h
          refine go_iadd (pc' := 75) dX11_bridge_74 rfl g13 ?_
          refine go_istore (L' := [some (pvR 11 0 129), some (pvI x1), some (pvI x2), some (pvI v1), some (pvI j5), some (pvI (y10 + (iand (ishr x2 y12) 1))), some (pvI y11), some (pvI y12)]) (pc' := 77) dX11_bridge_75 rfl (Nat.le_of_ble_eq_true rfl) rfl ?_
          refine go_iload (pc' := 79) dX11_bridge_77 rfl rfl ?_
          refine go_iload_n (pc' := 80) dX11_bridge_79 rfl rfl ?_
          refine go_iload (pc' := 82) dX11_bridge_80 rfl rfl ?_
          refine go_ishr (pc' := 83) dX11_bridge_82 rfl ?_
          refine go_iconst (pc' := 84) dX11_bridge_83 rfl (r32_c rfl) ?_
          refine go_iand (pc' := 85) dX11_bridge_84 rfl ?_
          obtain ⟨j14, k15, h⟩ := bd h
          have k15J : Go none (Ev (d + 2)) mt179 103 [some (pvR 11 0 129), some (pvI x1), some (pvI x2), some (pvI v1), some (pvI j5), some (pvI (y10 + (iand (ishr x2 y12) 1))), some (pvI y11), some (pvI y12)] [pvI j14, pvI y11] (true, n, e, σ) out := by
            refine go_iand (pc' := 104) dX11_bridge_103 rfl ?_
            refine go_istore (L' := [some (pvR 11 0 129), some (pvI x1), some (pvI x2), some (pvI v1), some (pvI j5), some (pvI (y10 + (iand (ishr x2 y12) 1))), some (pvI (iand y11 j14)), some (pvI y12)]) (pc' := 106) dX11_bridge_104 rfl (Nat.le_of_ble_eq_true rfl) rfl ?_
            obtain ⟨g19, h⟩ := gd h
            refine go_iinc (L' := [some (pvR 11 0 129), some (pvI x1), some (pvI x2), some (pvI v1), some (pvI j5), some (pvI (y10 + (iand (ishr x2 y12) 1))), some (pvI (iand y11 j14)), some (pvI (y12 + 1))]) (pc' := 109) dX11_bridge_106 rfl rfl g19 rfl ?_
            refine go_goto (t := 50) dX11_bridge_109 rfl ?_
            exact ih (y10 + (iand (ishr x2 y12) 1)) (iand y11 j14) (y12 + 1) _ h hx
          clear h
          have h := k15
          refine go_if_eq (t := 98) (pc' := 88) dX11_bridge_85 rfl rfl (fun c20 => ?_) (fun c20 => ?_)
          · rw [if_pos (show (iand (ishr x2 y12) 1) = 0 from c20)] at h
            refine go_iconst (pc' := 99) dX11_bridge_98 rfl (r32_c rfl) ?_
            refine go_goto (t := 103) dX11_bridge_99 rfl ?_
            cases h
            exact k15J
          · rw [if_neg (show ¬ ((iand (ishr x2 y12) 1) = 0) from c20)] at h
            refine go_aload_n (pc' := 89) dX11_bridge_88 rfl rfl (Nat.le_of_ble_eq_true rfl) ?_
            refine go_iload_n (pc' := 90) dX11_bridge_89 rfl rfl ?_
            refine go_iload (pc' := 92) dX11_bridge_90 rfl rfl ?_
            obtain ⟨v16, k17, h⟩ := bd h
            have k17 := l_M_isPlain (d + 1) n e σ x1 y12 _ k17
            refine go_call (kc := 173) (Mc := mt173) (v := some (pvI v16)) (w' := (true, n, e, σ)) (pc' := 95) (st' := [pvI v16, pvI y11]) [pvR 11 0 129, pvI x1, pvI y12] [pvI y11] (Or.inl rfl) dX11_bridge_92 rfl rm_11_180 mtE173 rfl rfl rfl (Nat.le_of_ble_eq_true rfl) (Or.inr ⟨_, _, 129, rfl, Or.inl rfl⟩) k17 rfl ?_
            refine go_if_eq (t := 102) (pc' := 98) dX11_bridge_95 rfl rfl (fun c18 => ?_) (fun c18 => ?_)
            · rw [if_pos (show v16 = 0 from c18)] at h
              refine go_iconst (pc' := 103) dX11_bridge_102 rfl (r32_c rfl) ?_
              cases h
              exact k15J
            · rw [if_neg (show ¬ (v16 = 0) from c18)] at h
              refine go_iconst (pc' := 99) dX11_bridge_98 rfl (r32_c rfl) ?_
              refine go_goto (t := 103) dX11_bridge_99 rfl ?_
              cases h
              exact k15J

set_option maxRecDepth 10000 in
theorem l_M_bridge (d : Nat) (n e : Nat) (σ : Hp) (x1 : Int) (x2 : Int) (r : Int × Hp) (h : f_M_bridge σ x1 x2 = some r) : Ev (d + 3) 179 [pvR 11 0 129, pvI x1, pvI x2] (true, n, e, σ) (0, some (pvI r.1), true, n, e, r.2) := by
  unfold f_M_bridge at h
  refine Ev.of mtE179 rfl rfl rfl rfl ?_
  show Go none (Ev (d + 2)) mt179 0 [some (pvR 11 0 129), some (pvI x1), some (pvI x2), none, none, none, none, none] [] (true, n, e, σ) (0, some (pvI r.1), true, n, e, r.2)
  refine go_aload_n (pc' := 1) dX11_bridge_0 rfl rfl (Nat.le_of_ble_eq_true rfl) ?_
  refine go_iload_n (pc' := 2) dX11_bridge_1 rfl rfl ?_
  refine go_i2l (pc' := 3) dX11_bridge_2 rfl ?_
  refine go_lconst (z := 1) (pc' := 4) dX11_bridge_3 rfl rfl ?_
  refine go_ldc2 (pc' := 7) dX11_bridge_4 rfl (r64_c rfl) rc_11_197 ?_
  obtain ⟨v1, k2, h⟩ := bd h
  have k2 := l_M_in (d + 1) n e σ x2 1 4095 _ k2
  refine go_call (kc := 172) (Mc := mt172) (v := some (pvI v1)) (w' := (true, n, e, σ)) (pc' := 10) (st' := [pvI v1]) [pvR 11 0 129, pvL x2, pvL 1, pvL 4095] [] (Or.inl rfl) dX11_bridge_7 rfl rm_11_145 mtE172 rfl rfl rfl (Nat.le_of_ble_eq_true rfl) (Or.inr ⟨_, _, 129, rfl, Or.inl rfl⟩) k2 rfl ?_
  refine go_istore_n (L' := [some (pvR 11 0 129), some (pvI x1), some (pvI x2), some (pvI v1), none, none, none, none]) (pc' := 11) dX11_bridge_10 rfl (Nat.le_of_ble_eq_true rfl) rfl ?_
  refine go_aload_n (pc' := 12) dX11_bridge_11 rfl rfl (Nat.le_of_ble_eq_true rfl) ?_
  refine go_iload_n (pc' := 13) dX11_bridge_12 rfl rfl ?_
  obtain ⟨v3, k4, h⟩ := bd h
  have k4 := l_M_isDim (d + 0) n e σ x1 _ k4
  refine go_call (kc := 171) (Mc := mt171) (v := some (pvI v3)) (w' := (true, n, e, σ)) (pc' := 16) (st' := [pvI v3]) [pvR 11 0 129, pvI x1] [] (Or.inl rfl) dX11_bridge_13 rfl rm_11_149 mtE171 rfl rfl rfl (Nat.le_of_ble_eq_true rfl) (Or.inr ⟨_, _, 129, rfl, Or.inl rfl⟩) k4 rfl ?_
  obtain ⟨j5, k6, h⟩ := bd h
  have k6J : Go none (Ev (d + 2)) mt179 39 [some (pvR 11 0 129), some (pvI x1), some (pvI x2), some (pvI v1), none, none, none, none] [pvI j5] (true, n, e, σ) (0, some (pvI r.1), true, n, e, r.2) := by
    refine go_istore (L' := [some (pvR 11 0 129), some (pvI x1), some (pvI x2), some (pvI v1), some (pvI j5), none, none, none]) (pc' := 41) dX11_bridge_39 rfl (Nat.le_of_ble_eq_true rfl) rfl ?_
    refine go_iconst (pc' := 42) dX11_bridge_41 rfl (r32_c rfl) ?_
    refine go_istore (L' := [some (pvR 11 0 129), some (pvI x1), some (pvI x2), some (pvI v1), some (pvI j5), some (pvI 0), none, none]) (pc' := 44) dX11_bridge_42 rfl (Nat.le_of_ble_eq_true rfl) rfl ?_
    refine go_iconst (pc' := 45) dX11_bridge_44 rfl (r32_c rfl) ?_
    refine go_istore (L' := [some (pvR 11 0 129), some (pvI x1), some (pvI x2), some (pvI v1), some (pvI j5), some (pvI 0), some (pvI 1), none]) (pc' := 47) dX11_bridge_45 rfl (Nat.le_of_ble_eq_true rfl) rfl ?_
    refine go_iconst (pc' := 48) dX11_bridge_47 rfl (r32_c rfl) ?_
    refine go_istore (L' := [some (pvR 11 0 129), some (pvI x1), some (pvI x2), some (pvI v1), some (pvI j5), some (pvI 0), some (pvI 1), some (pvI 0)]) (pc' := 50) dX11_bridge_48 rfl (Nat.le_of_ble_eq_true rfl) rfl ?_
    obtain ⟨j25, k26, h⟩ := bd h
    refine l_M_bridge_50 d n e σ x1 x2 j5 v1 zFuel 0 1 0 _ k26 ?_
    refine go_aload_n (pc' := 113) dX11_bridge_112 rfl rfl (Nat.le_of_ble_eq_true rfl) ?_
    refine go_iload (pc' := 115) dX11_bridge_113 rfl rfl ?_
    obtain ⟨j27, k28, h⟩ := bd h
    have k28J : Go none (Ev (d + 2)) mt179 157 [some (pvR 11 0 129), some (pvI x1), some (pvI x2), some (pvI v1), some (pvI j5), some (pvI j25.1), some (pvI j25.2.1), some (pvI j25.2.2)] [pvI j27, pvR 11 0 129] (true, n, e, σ) (0, some (pvI r.1), true, n, e, r.2) := by
      obtain ⟨v34, k35, h⟩ := bd h
      have k35 := l_M_holds (d + 1) n e σ j27 _ k35
      refine go_call (kc := 174) (Mc := mt174) (v := some (pvI v34.1)) (w' := (true, n, e, v34.2)) (pc' := 160) (st' := [pvI v34.1]) [pvR 11 0 129, pvI j27] [] (Or.inl rfl) dX11_bridge_157 rfl rm_11_185 mtE174 rfl rfl rfl (Nat.le_of_ble_eq_true rfl) (Or.inr ⟨_, _, 129, rfl, Or.inl rfl⟩) k35 rfl ?_
      refine go_if_eq (t := 165) (pc' := 163) dX11_bridge_160 rfl rfl (fun c43 => ?_) (fun c43 => ?_)
      · rw [if_pos (show v34.1 = 0 from c43)] at h
        refine go_aload_n (pc' := 166) dX11_bridge_165 rfl rfl (Nat.le_of_ble_eq_true rfl) ?_
        refine go_iload_n (pc' := 167) dX11_bridge_166 rfl rfl ?_
        refine go_iconst (pc' := 168) dX11_bridge_167 rfl (r32_c rfl) ?_
        obtain ⟨v36, k37, h⟩ := bd h
        have k37 := l_M_make (d + 1) n e v34.2 x1 1 _ k37
        refine go_call (kc := 175) (Mc := mt175) (v := some (pvI v36.1)) (w' := (true, n, e, v36.2)) (pc' := 171) (st' := [pvI v36.1]) [pvR 11 0 129, pvI x1, pvI 1] [] (Or.inl rfl) dX11_bridge_168 rfl rm_11_188 mtE175 rfl rfl rfl (Nat.le_of_ble_eq_true rfl) (Or.inr ⟨_, _, 129, rfl, Or.inl rfl⟩) k37 rfl ?_
        refine go_istore (L' := [some (pvR 11 0 129), some (pvI x1), some (pvI x2), some (pvI v1), some (pvI j5), some (pvI j25.1), some (pvI j25.2.1), some (pvI v36.1)]) (pc' := 173) dX11_bridge_171 rfl (Nat.le_of_ble_eq_true rfl) rfl ?_
        refine go_aload_n (pc' := 174) dX11_bridge_173 rfl rfl (Nat.le_of_ble_eq_true rfl) ?_
        refine go_getR (k' := 12) (L0 := 36) (P' := 134) (pc' := 177) dX11_bridge_174 rfl rf_11_24 rfl rfl (by omega) ?_
        refine go_bipush (pc' := 179) dX11_bridge_177 rfl (r32_c rfl) (by decide) ?_
        refine go_iload_n (pc' := 180) dX11_bridge_179 rfl rfl ?_
        obtain ⟨g38, h⟩ := gd h
        refine go_imul (pc' := 181) dX11_bridge_180 rfl g38 ?_
        refine go_iload (pc' := 183) dX11_bridge_181 rfl rfl ?_
        obtain ⟨g39, h⟩ := gd h
        refine go_iadd (pc' := 184) dX11_bridge_183 rfl g39 ?_
        refine go_iload_n (pc' := 185) dX11_bridge_184 rfl rfl ?_
        obtain ⟨g40, h⟩ := gd h
        refine go_iast (pc' := 186) dX11_bridge_185 rfl g40 ?_
        refine go_aload_n (pc' := 187) dX11_bridge_186 rfl rfl (Nat.le_of_ble_eq_true rfl) ?_
        obtain ⟨v41, k42, h⟩ := bd h
        have k42 := l_M_fresh (d + 1) n e (hset v36.2 134 ((12 * x1) + v36.1) x2) _ k42
        refine go_call (kc := 178) (Mc := mt178) (v := none) (w' := (true, n, e, v41)) (pc' := 190) (st' := []) [pvR 11 0 129] [] (Or.inl rfl) dX11_bridge_187 rfl rm_11_194 mtE178 rfl rfl rfl (Nat.le_of_ble_eq_true rfl) (Or.inr ⟨_, _, 129, rfl, Or.inl rfl⟩) k42 rfl ?_
        refine go_iload (pc' := 192) dX11_bridge_190 rfl rfl ?_
        cases h
        exact go_iret dX11_bridge_192 rfl rfl
      · rw [if_neg (show ¬ (v34.1 = 0) from c43)] at h
        refine go_iconst (pc' := 164) dX11_bridge_163 rfl (r32_c rfl) ?_
        cases h
        exact go_iret dX11_bridge_164 rfl rfl
    clear h
    have h := k28
    refine go_if_ne (t := 122) (pc' := 118) dX11_bridge_115 rfl rfl (fun c44 => ?_) (fun c44 => ?_)
    · rw [if_pos (show j5 ≠ 0 from c44)] at h
      refine go_iload_n (pc' := 123) dX11_bridge_122 rfl rfl ?_
      refine go_if_ne (t := 130) (pc' := 126) dX11_bridge_123 rfl rfl (fun c33 => ?_) (fun c33 => ?_)
      · rw [if_pos (show v1 ≠ 0 from c33)] at h
        refine go_iload (pc' := 132) dX11_bridge_130 rfl rfl ?_
        refine go_if_eq (t := 152) (pc' := 135) dX11_bridge_132 rfl rfl (fun c32 => ?_) (fun c32 => ?_)
        · rw [if_pos (show j25.2.1 = 0 from c32)] at h
          refine go_iconst (pc' := 153) dX11_bridge_152 rfl (r32_c rfl) ?_
          refine go_goto (t := 157) dX11_bridge_153 rfl ?_
          cases h
          exact k28J
        · rw [if_neg (show ¬ (j25.2.1 = 0) from c32)] at h
          refine go_iload (pc' := 137) dX11_bridge_135 rfl rfl ?_
          refine go_iconst (pc' := 138) dX11_bridge_137 rfl (r32_c rfl) ?_
          refine go_icmp_gt (t := 152) (pc' := 141) dX11_bridge_138 rfl rfl (fun c31 => ?_) (fun c31 => ?_)
          · rw [if_pos (show 5 < j25.1 from c31)] at h
            refine go_iconst (pc' := 153) dX11_bridge_152 rfl (r32_c rfl) ?_
            refine go_goto (t := 157) dX11_bridge_153 rfl ?_
            cases h
            exact k28J
          · rw [if_neg (show ¬ (5 < j25.1) from c31)] at h
            refine go_aload_n (pc' := 142) dX11_bridge_141 rfl rfl (Nat.le_of_ble_eq_true rfl) ?_
            refine go_getR (k' := 12) (L0 := 3) (P' := 130) (pc' := 145) dX11_bridge_142 rfl rf_11_9 rfl rfl (by omega) ?_
            refine go_iload_n (pc' := 146) dX11_bridge_145 rfl rfl ?_
            obtain ⟨g29, h⟩ := gd h
            refine go_iald (pc' := 147) dX11_bridge_146 rfl g29 ?_
            refine go_bipush (pc' := 149) dX11_bridge_147 rfl (r32_c rfl) (by decide) ?_
            refine go_icmp_ne (t := 156) (pc' := 152) dX11_bridge_149 rfl rfl (fun c30 => ?_) (fun c30 => ?_)
            · rw [if_pos (show (σ 130 x1) ≠ 12 from c30)] at h
              refine go_iconst (pc' := 157) dX11_bridge_156 rfl (r32_c rfl) ?_
              cases h
              exact k28J
            · rw [if_neg (show ¬ ((σ 130 x1) ≠ 12) from c30)] at h
              refine go_iconst (pc' := 153) dX11_bridge_152 rfl (r32_c rfl) ?_
              refine go_goto (t := 157) dX11_bridge_153 rfl ?_
              cases h
              exact k28J
      · rw [if_neg (show ¬ (v1 ≠ 0) from c33)] at h
        refine go_iconst (pc' := 127) dX11_bridge_126 rfl (r32_c rfl) ?_
        refine go_goto (t := 157) dX11_bridge_127 rfl ?_
        cases h
        exact k28J
    · rw [if_neg (show ¬ (j5 ≠ 0) from c44)] at h
      refine go_iconst (pc' := 119) dX11_bridge_118 rfl (r32_c rfl) ?_
      refine go_goto (t := 157) dX11_bridge_119 rfl ?_
      cases h
      exact k28J
  clear h
  have h := k6
  refine go_if_eq (t := 38) (pc' := 19) dX11_bridge_16 rfl rfl (fun c45 => ?_) (fun c45 => ?_)
  · rw [if_pos (show v3 = 0 from c45)] at h
    refine go_iconst (pc' := 39) dX11_bridge_38 rfl (r32_c rfl) ?_
    cases h
    exact k6J
  · rw [if_neg (show ¬ (v3 = 0) from c45)] at h
    refine go_iload_n (pc' := 20) dX11_bridge_19 rfl rfl ?_
    refine go_if_eq (t := 34) (pc' := 23) dX11_bridge_20 rfl rfl (fun c9 => ?_) (fun c9 => ?_)
    · rw [if_pos (show v1 = 0 from c9)] at h
      refine go_iconst (pc' := 35) dX11_bridge_34 rfl (r32_c rfl) ?_
      refine go_goto (t := 39) dX11_bridge_35 rfl ?_
      cases h
      exact k6J
    · rw [if_neg (show ¬ (v1 = 0) from c9)] at h
      refine go_iload_n (pc' := 24) dX11_bridge_23 rfl rfl ?_
      refine go_aload_n (pc' := 25) dX11_bridge_24 rfl rfl (Nat.le_of_ble_eq_true rfl) ?_
      refine go_getR (k' := 12) (L0 := 3) (P' := 130) (pc' := 28) dX11_bridge_25 rfl rf_11_9 rfl rfl (by omega) ?_
      refine go_iload_n (pc' := 29) dX11_bridge_28 rfl rfl ?_
      obtain ⟨g7, h⟩ := gd h
      refine go_iald (pc' := 30) dX11_bridge_29 rfl g7 ?_
      refine go_ishr (pc' := 31) dX11_bridge_30 rfl ?_
      refine go_if_ne (t := 38) (pc' := 34) dX11_bridge_31 rfl rfl (fun c8 => ?_) (fun c8 => ?_)
      · rw [if_pos (show (ishr x2 (σ 130 x1)) ≠ 0 from c8)] at h
        refine go_iconst (pc' := 39) dX11_bridge_38 rfl (r32_c rfl) ?_
        cases h
        exact k6J
      · rw [if_neg (show ¬ ((ishr x2 (σ 130 x1)) ≠ 0) from c8)] at h
        refine go_iconst (pc' := 35) dX11_bridge_34 rfl (r32_c rfl) ?_
        refine go_goto (t := 39) dX11_bridge_35 rfl ?_
        cases h
        exact k6J

set_option maxRecDepth 10000 in
theorem l_M_parent_6 (d : Nat) (n : Nat) (e : Nat) (σ : Hp) (x1 : Int) (x2 : Int) (x3 : Int) {out : Out} : ∀ (F : Nat) (y1 : Int) (y2 : Int) (j23 : Int × Int), f_M_parent_6 σ x1 x2 x3 F y1 y2 = some j23 → Go none (Ev (d + 0)) mt182 112 [some (pvR 11 0 129), some (pvI x1), some (pvI x2), some (pvI x3), some (pvI j23.1), some (pvI j23.2), none] [] (true, n, e, σ) out → Go none (Ev (d + 0)) mt182 6 [some (pvR 11 0 129), some (pvI x1), some (pvI x2), some (pvI x3), some (pvI y1), some (pvI y2), none] [] (true, n, e, σ) out := by
  intro F
  induction F with
  | zero =>
    intro _ _ _ h
    intro _
    rw [f_M_parent_6] at h
    cases h
  | succ F ih =>
    intro y1 y2 j23 h hx
    rw [f_M_parent_6] at h
    refine go_iload (pc' := 8) dX11_parent_6 rfl rfl ?_
    refine go_aload_n (pc' := 9) dX11_parent_8 rfl rfl (Nat.le_of_ble_eq_true rfl) ?_
    refine go_getI (pc' := 12) dX11_parent_9 rfl rf_11_166 rfl ?_
    refine go_icmp_ge (t := 112) (pc' := 15) dX11_parent_12 rfl rfl (fun c22 => ?_) (fun c22 => ?_)
    · rw [if_pos (show (σ 129 15) ≤ y2 from c22)] at h
      cases h
      exact hx
    · rw [if_neg (show ¬ ((σ 129 15) ≤ y2) from c22)] at h
      refine go_aload_n (pc' := 16) dX11_parent_15 rfl rfl (Nat.le_of_ble_eq_true rfl) ?_
      refine go_getR (k' := 12) (L0 := 10) (P' := 141) (pc' := 19) dX11_parent_16 rfl rf_11_45 rfl rfl (by omega) ?_
      refine go_iload (pc' := 21) dX11_parent_19 rfl rfl ?_
      obtain ⟨g3, h⟩ := gd h
      refine go_iald (pc' := 22) dX11_parent_21 rfl g3 ?_
      refine go_iload_n (pc' := 23) dX11_parent_22 rfl rfl ?_
      obtain ⟨j4, k5, h⟩ := bd h
      have k5J : Go none (Ev (d + 0)) mt182 90 [some (pvR 11 0 129), some (pvI x1), some (pvI x2), some (pvI x3), some (pvI y1), some (pvI y2), none] [pvI j4] (true, n, e, σ) out := by
        refine go_istore (L' := [some (pvR 11 0 129), some (pvI x1), some (pvI x2), some (pvI x3), some (pvI y1), some (pvI y2), some (pvI j4)]) (pc' := 92) dX11_parent_90 rfl (Nat.le_of_ble_eq_true rfl) rfl ?_
        refine go_iload (pc' := 94) dX11_parent_92 rfl rfl ?_
        obtain ⟨j17, k18, h⟩ := bd h
        have k18J : Go none (Ev (d + 0)) mt182 104 [some (pvR 11 0 129), some (pvI x1), some (pvI x2), some (pvI x3), some (pvI y1), some (pvI y2), some (pvI j4)] [pvI j17] (true, n, e, σ) out := by
          refine go_istore (L' := [some (pvR 11 0 129), some (pvI x1), some (pvI x2), some (pvI x3), some (pvI j17), some (pvI y2), some (pvI j4)]) (pc' := 106) dX11_parent_104 rfl (Nat.le_of_ble_eq_true rfl) rfl ?_
          obtain ⟨g19, h⟩ := gd h
          refine go_iinc (L' := [some (pvR 11 0 129), some (pvI x1), some (pvI x2), some (pvI x3), some (pvI j17), some (pvI (y2 + 1)), some (pvI j4)]) (pc' := 109) dX11_parent_106 rfl rfl g19 rfl ?_
          refine go_goto (t := 6) dX11_parent_109 rfl ?_
          exact go_sub (ih j17 (y2 + 1) _ h hx) ⟨Or.inr rfl, Or.inr rfl, Or.inr rfl, Or.inr rfl, Or.inr rfl, Or.inr rfl, Or.inl rfl, trivial⟩
        clear h
        have h := k18
        refine go_if_eq (t := 102) (pc' := 97) dX11_parent_94 rfl rfl (fun c20 => ?_) (fun c20 => ?_)
        · rw [if_pos (show j4 = 0 from c20)] at h
          refine go_iload (pc' := 104) dX11_parent_102 rfl rfl ?_
          cases h
          exact k18J
        · rw [if_neg (show ¬ (j4 = 0) from c20)] at h
          refine go_iload (pc' := 99) dX11_parent_97 rfl rfl ?_
          refine go_goto (t := 104) dX11_parent_99 rfl ?_
          cases h
          exact k18J
      clear h
      have h := k5
      refine go_icmp_ne (t := 89) (pc' := 26) dX11_parent_23 rfl rfl (fun c21 => ?_) (fun c21 => ?_)
      · rw [if_pos (show (σ 141 y2) ≠ x1 from c21)] at h
        refine go_iconst (pc' := 90) dX11_parent_89 rfl (r32_c rfl) ?_
        cases h
        exact k5J
      · rw [if_neg (show ¬ ((σ 141 y2) ≠ x1) from c21)] at h
        refine go_aload_n (pc' := 27) dX11_parent_26 rfl rfl (Nat.le_of_ble_eq_true rfl) ?_
        refine go_getR (k' := 12) (L0 := 10) (P' := 142) (pc' := 30) dX11_parent_27 rfl rf_11_48 rfl rfl (by omega) ?_
        refine go_iload (pc' := 32) dX11_parent_30 rfl rfl ?_
        obtain ⟨g6, h⟩ := gd h
        refine go_iald (pc' := 33) dX11_parent_32 rfl g6 ?_
        refine go_iload_n (pc' := 34) dX11_parent_33 rfl rfl ?_
        refine go_icmp_ne (t := 89) (pc' := 37) dX11_parent_34 rfl rfl (fun c16 => ?_) (fun c16 => ?_)
        · rw [if_pos (show (σ 142 y2) ≠ x2 from c16)] at h
          refine go_iconst (pc' := 90) dX11_parent_89 rfl (r32_c rfl) ?_
          cases h
          exact k5J
        · rw [if_neg (show ¬ ((σ 142 y2) ≠ x2) from c16)] at h
          refine go_aload_n (pc' := 38) dX11_parent_37 rfl rfl (Nat.le_of_ble_eq_true rfl) ?_
          refine go_getR (k' := 12) (L0 := 12) (P' := 145) (pc' := 41) dX11_parent_38 rfl rf_11_57 rfl rfl (by omega) ?_
          refine go_aload_n (pc' := 42) dX11_parent_41 rfl rfl (Nat.le_of_ble_eq_true rfl) ?_
          refine go_getR (k' := 12) (L0 := 10) (P' := 144) (pc' := 45) dX11_parent_42 rfl rf_11_54 rfl rfl (by omega) ?_
          refine go_iload (pc' := 47) dX11_parent_45 rfl rfl ?_
          obtain ⟨g7, h⟩ := gd h
          refine go_iald (pc' := 48) dX11_parent_47 rfl g7 ?_
          obtain ⟨g8, h⟩ := gd h
          refine go_iald (pc' := 49) dX11_parent_48 rfl g8 ?_
          refine go_iload_n (pc' := 50) dX11_parent_49 rfl rfl ?_
          refine go_icmp_gt (t := 89) (pc' := 53) dX11_parent_50 rfl rfl (fun c15 => ?_) (fun c15 => ?_)
          · rw [if_pos (show x3 < (σ 145 (σ 144 y2)) from c15)] at h
            refine go_iconst (pc' := 90) dX11_parent_89 rfl (r32_c rfl) ?_
            cases h
            exact k5J
          · rw [if_neg (show ¬ (x3 < (σ 145 (σ 144 y2))) from c15)] at h
            refine go_iload (pc' := 55) dX11_parent_53 rfl rfl ?_
            refine go_if_lt (t := 85) (pc' := 58) dX11_parent_55 rfl rfl (fun c14 => ?_) (fun c14 => ?_)
            · rw [if_pos (show y1 < 0 from c14)] at h
              refine go_iconst (pc' := 86) dX11_parent_85 rfl (r32_c rfl) ?_
              refine go_goto (t := 90) dX11_parent_86 rfl ?_
              cases h
              exact k5J
            · rw [if_neg (show ¬ (y1 < 0) from c14)] at h
              refine go_aload_n (pc' := 59) dX11_parent_58 rfl rfl (Nat.le_of_ble_eq_true rfl) ?_
              refine go_getR (k' := 12) (L0 := 12) (P' := 145) (pc' := 62) dX11_parent_59 rfl rf_11_57 rfl rfl (by omega) ?_
              refine go_aload_n (pc' := 63) dX11_parent_62 rfl rfl (Nat.le_of_ble_eq_true rfl) ?_
              refine go_getR (k' := 12) (L0 := 10) (P' := 144) (pc' := 66) dX11_parent_63 rfl rf_11_54 rfl rfl (by omega) ?_
              refine go_iload (pc' := 68) dX11_parent_66 rfl rfl ?_
              obtain ⟨g9, h⟩ := gd h
              refine go_iald (pc' := 69) dX11_parent_68 rfl g9 ?_
              obtain ⟨g10, h⟩ := gd h
              refine go_iald (pc' := 70) dX11_parent_69 rfl g10 ?_
              refine go_aload_n (pc' := 71) dX11_parent_70 rfl rfl (Nat.le_of_ble_eq_true rfl) ?_
              refine go_getR (k' := 12) (L0 := 12) (P' := 145) (pc' := 74) dX11_parent_71 rfl rf_11_57 rfl rfl (by omega) ?_
              refine go_aload_n (pc' := 75) dX11_parent_74 rfl rfl (Nat.le_of_ble_eq_true rfl) ?_
              refine go_getR (k' := 12) (L0 := 10) (P' := 144) (pc' := 78) dX11_parent_75 rfl rf_11_54 rfl rfl (by omega) ?_
              refine go_iload (pc' := 80) dX11_parent_78 rfl rfl ?_
              obtain ⟨g11, h⟩ := gd h
              refine go_iald (pc' := 81) dX11_parent_80 rfl g11 ?_
              obtain ⟨g12, h⟩ := gd h
              refine go_iald (pc' := 82) dX11_parent_81 rfl g12 ?_
              refine go_icmp_lt (t := 89) (pc' := 85) dX11_parent_82 rfl rfl (fun c13 => ?_) (fun c13 => ?_)
              · rw [if_pos (show (σ 145 (σ 144 y2)) < (σ 145 (σ 144 y1)) from c13)] at h
                refine go_iconst (pc' := 90) dX11_parent_89 rfl (r32_c rfl) ?_
                cases h
                exact k5J
              · rw [if_neg (show ¬ ((σ 145 (σ 144 y2)) < (σ 145 (σ 144 y1))) from c13)] at h
                refine go_iconst (pc' := 86) dX11_parent_85 rfl (r32_c rfl) ?_
                refine go_goto (t := 90) dX11_parent_86 rfl ?_
                cases h
                exact k5J

set_option maxRecDepth 10000 in
theorem l_M_parent (d : Nat) (n e : Nat) (σ : Hp) (x1 : Int) (x2 : Int) (x3 : Int) (r : Int) (h : f_M_parent σ x1 x2 x3 = some r) : Ev (d + 1) 182 [pvR 11 0 129, pvI x1, pvI x2, pvI x3] (true, n, e, σ) (0, some (pvI r), true, n, e, σ) := by
  unfold f_M_parent at h
  refine Ev.of mtE182 rfl rfl rfl rfl ?_
  show Go none (Ev (d + 0)) mt182 0 [some (pvR 11 0 129), some (pvI x1), some (pvI x2), some (pvI x3), none, none, none] [] (true, n, e, σ) (0, some (pvI r), true, n, e, σ)
  refine go_iconst (pc' := 1) dX11_parent_0 rfl (r32_c rfl) ?_
  refine go_istore (L' := [some (pvR 11 0 129), some (pvI x1), some (pvI x2), some (pvI x3), some (pvI (-1)), none, none]) (pc' := 3) dX11_parent_1 rfl (Nat.le_of_ble_eq_true rfl) rfl ?_
  refine go_iconst (pc' := 4) dX11_parent_3 rfl (r32_c rfl) ?_
  refine go_istore (L' := [some (pvR 11 0 129), some (pvI x1), some (pvI x2), some (pvI x3), some (pvI (-1)), some (pvI 0), none]) (pc' := 6) dX11_parent_4 rfl (Nat.le_of_ble_eq_true rfl) rfl ?_
  obtain ⟨j24, k25, h⟩ := bd h
  refine l_M_parent_6 d n e σ x1 x2 x3 zFuel (-1) 0 _ k25 ?_
  refine go_iload (pc' := 114) dX11_parent_112 rfl rfl ?_
  obtain ⟨j26, k27, h⟩ := bd h
  have k27J : Go none (Ev (d + 0)) mt182 138 [some (pvR 11 0 129), some (pvI x1), some (pvI x2), some (pvI x3), some (pvI j24.1), some (pvI j24.2), none] [pvI j26] (true, n, e, σ) (0, some (pvI r), true, n, e, σ) := by
    cases h
    exact go_iret dX11_parent_138 rfl rfl
  clear h
  have h := k27
  refine go_if_ge (t := 131) (pc' := 117) dX11_parent_114 rfl rfl (fun c32 => ?_) (fun c32 => ?_)
  · rw [if_pos (show 0 ≤ j24.1 from c32)] at h
    refine go_aload_n (pc' := 132) dX11_parent_131 rfl rfl (Nat.le_of_ble_eq_true rfl) ?_
    refine go_getR (k' := 12) (L0 := 10) (P' := 143) (pc' := 135) dX11_parent_132 rfl rf_11_51 rfl rfl (by omega) ?_
    refine go_iload (pc' := 137) dX11_parent_135 rfl rfl ?_
    obtain ⟨g28, h⟩ := gd h
    refine go_iald (pc' := 138) dX11_parent_137 rfl g28 ?_
    cases h
    exact k27J
  · rw [if_neg (show ¬ (0 ≤ j24.1) from c32)] at h
    refine go_aload_n (pc' := 118) dX11_parent_117 rfl rfl (Nat.le_of_ble_eq_true rfl) ?_
    refine go_getR (k' := 12) (L0 := 36) (P' := 132) (pc' := 121) dX11_parent_118 rfl rf_11_18 rfl rfl (by omega) ?_
    refine go_bipush (pc' := 123) dX11_parent_121 rfl (r32_c rfl) (by decide) ?_
    refine go_iload_n (pc' := 124) dX11_parent_123 rfl rfl ?_
    obtain ⟨g29, h⟩ := gd h
    refine go_imul (pc' := 125) dX11_parent_124 rfl g29 ?_
    refine go_iload_n (pc' := 126) dX11_parent_125 rfl rfl ?_
    obtain ⟨g30, h⟩ := gd h
    refine go_iadd (pc' := 127) dX11_parent_126 rfl g30 ?_
    obtain ⟨g31, h⟩ := gd h
    refine go_iald (pc' := 128) dX11_parent_127 rfl g31 ?_
    refine go_goto (t := 138) dX11_parent_128 rfl ?_
    cases h
    exact k27J

set_option maxRecDepth 10000 in
theorem l_M_now (d : Nat) (n e : Nat) (σ : Hp) (x1 : Int) (x2 : Int) (r : Int) (h : f_M_now σ x1 x2 = some r) : Ev (d + 2) 181 [pvR 11 0 129, pvI x1, pvI x2] (true, n, e, σ) (0, some (pvI r), true, n, e, σ) := by
  unfold f_M_now at h
  refine Ev.of mtE181 rfl rfl rfl rfl ?_
  show Go none (Ev (d + 1)) mt181 0 [some (pvR 11 0 129), some (pvI x1), some (pvI x2)] [] (true, n, e, σ) (0, some (pvI r), true, n, e, σ)
  refine go_aload_n (pc' := 1) dX11_now_0 rfl rfl (Nat.le_of_ble_eq_true rfl) ?_
  refine go_iload_n (pc' := 2) dX11_now_1 rfl rfl ?_
  refine go_iload_n (pc' := 3) dX11_now_2 rfl rfl ?_
  refine go_bipush (pc' := 5) dX11_now_3 rfl (r32_c rfl) (by decide) ?_
  obtain ⟨v1, k2, h⟩ := bd h
  have k2 := l_M_parent (d + 0) n e σ x1 x2 99 _ k2
  refine go_call (kc := 182) (Mc := mt182) (v := some (pvI v1)) (w' := (true, n, e, σ)) (pc' := 8) (st' := [pvI v1]) [pvR 11 0 129, pvI x1, pvI x2, pvI 99] [] (Or.inl rfl) dX11_now_5 rfl rm_11_169 mtE182 rfl rfl rfl (Nat.le_of_ble_eq_true rfl) (Or.inr ⟨_, _, 129, rfl, Or.inl rfl⟩) k2 rfl ?_
  cases h
  exact go_iret dX11_now_8 rfl rfl

set_option maxRecDepth 10000 in
theorem l_M_move (d : Nat) (n e : Nat) (σ : Hp) (x1 : Int) (x2 : Int) (x3 : Int) (x4 : Int) (r : Int × Hp) (h : f_M_move σ x1 x2 x3 x4 = some r) : Ev (d + 4) 180 [pvR 11 0 129, pvI x1, pvI x2, pvI x3, pvI x4] (true, n, e, σ) (0, some (pvI r.1), true, n, e, r.2) := by
  unfold f_M_move at h
  refine Ev.of mtE180 rfl rfl rfl rfl ?_
  show Go none (Ev (d + 3)) mt180 0 [some (pvR 11 0 129), some (pvI x1), some (pvI x2), some (pvI x3), some (pvI x4), none, none, none] [] (true, n, e, σ) (0, some (pvI r.1), true, n, e, r.2)
  refine go_aload_n (pc' := 1) dX11_move_0 rfl rfl (Nat.le_of_ble_eq_true rfl) ?_
  refine go_iload_n (pc' := 2) dX11_move_1 rfl rfl ?_
  refine go_i2l (pc' := 3) dX11_move_2 rfl ?_
  refine go_lconst (z := 1) (pc' := 4) dX11_move_3 rfl rfl ?_
  refine go_ldc2 (pc' := 7) dX11_move_4 rfl (r64_c rfl) rc_11_143 ?_
  obtain ⟨v1, k2, h⟩ := bd h
  have k2 := l_M_in (d + 2) n e σ x1 1 2 _ k2
  refine go_call (kc := 172) (Mc := mt172) (v := some (pvI v1)) (w' := (true, n, e, σ)) (pc' := 10) (st' := [pvI v1]) [pvR 11 0 129, pvL x1, pvL 1, pvL 2] [] (Or.inl rfl) dX11_move_7 rfl rm_11_145 mtE172 rfl rfl rfl (Nat.le_of_ble_eq_true rfl) (Or.inr ⟨_, _, 129, rfl, Or.inl rfl⟩) k2 rfl ?_
  obtain ⟨j3, k4, h⟩ := bd h
  have k4J : Go none (Ev (d + 3)) mt180 50 [some (pvR 11 0 129), some (pvI x1), some (pvI x2), some (pvI x3), some (pvI x4), none, none, none] [pvI j3] (true, n, e, σ) (0, some (pvI r.1), true, n, e, r.2) := by
    refine go_istore (L' := [some (pvR 11 0 129), some (pvI x1), some (pvI x2), some (pvI x3), some (pvI x4), some (pvI j3), none, none]) (pc' := 52) dX11_move_50 rfl (Nat.le_of_ble_eq_true rfl) rfl ?_
    refine go_iload (pc' := 54) dX11_move_52 rfl rfl ?_
    obtain ⟨j15, k16, h⟩ := bd h
    have k16J : Go none (Ev (d + 3)) mt180 104 [some (pvR 11 0 129), some (pvI x1), some (pvI x2), some (pvI x3), some (pvI x4), some (pvI j3), none, none] [pvI j15] (true, n, e, σ) (0, some (pvI r.1), true, n, e, r.2) := by
      refine go_istore (L' := [some (pvR 11 0 129), some (pvI x1), some (pvI x2), some (pvI x3), some (pvI x4), some (pvI j3), some (pvI j15), none]) (pc' := 106) dX11_move_104 rfl (Nat.le_of_ble_eq_true rfl) rfl ?_
      refine go_aload_n (pc' := 107) dX11_move_106 rfl rfl (Nat.le_of_ble_eq_true rfl) ?_
      refine go_iload (pc' := 109) dX11_move_107 rfl rfl ?_
      obtain ⟨j28, k29, h⟩ := bd h
      have k29J : Go none (Ev (d + 3)) mt180 126 [some (pvR 11 0 129), some (pvI x1), some (pvI x2), some (pvI x3), some (pvI x4), some (pvI j3), some (pvI j15), none] [pvI j28, pvR 11 0 129] (true, n, e, σ) (0, some (pvI r.1), true, n, e, r.2) := by
        obtain ⟨v31, k32, h⟩ := bd h
        have k32 := l_M_holds (d + 2) n e σ j28 _ k32
        refine go_call (kc := 174) (Mc := mt174) (v := some (pvI v31.1)) (w' := (true, n, e, v31.2)) (pc' := 129) (st' := [pvI v31.1]) [pvR 11 0 129, pvI j28] [] (Or.inl rfl) dX11_move_126 rfl rm_11_185 mtE174 rfl rfl rfl (Nat.le_of_ble_eq_true rfl) (Or.inr ⟨_, _, 129, rfl, Or.inl rfl⟩) k32 rfl ?_
        refine go_if_eq (t := 134) (pc' := 132) dX11_move_129 rfl rfl (fun c42 => ?_) (fun c42 => ?_)
        · rw [if_pos (show v31.1 = 0 from c42)] at h
          refine go_aload_n (pc' := 135) dX11_move_134 rfl rfl (Nat.le_of_ble_eq_true rfl) ?_
          refine go_iload_n (pc' := 136) dX11_move_135 rfl rfl ?_
          refine go_iload_n (pc' := 137) dX11_move_136 rfl rfl ?_
          obtain ⟨v33, k34, h⟩ := bd h
          have k34 := l_M_now (d + 1) n e v31.2 x1 x2 _ k34
          refine go_call (kc := 181) (Mc := mt181) (v := some (pvI v33)) (w' := (true, n, e, v31.2)) (pc' := 140) (st' := [pvI v33]) [pvR 11 0 129, pvI x1, pvI x2] [] (Or.inl rfl) dX11_move_137 rfl rm_11_173 mtE181 rfl rfl rfl (Nat.le_of_ble_eq_true rfl) (Or.inr ⟨_, _, 129, rfl, Or.inl rfl⟩) k34 rfl ?_
          refine go_istore (L' := [some (pvR 11 0 129), some (pvI x1), some (pvI x2), some (pvI x3), some (pvI x4), some (pvI j3), some (pvI j15), some (pvI v33)]) (pc' := 142) dX11_move_140 rfl (Nat.le_of_ble_eq_true rfl) rfl ?_
          refine go_aload_n (pc' := 143) dX11_move_142 rfl rfl (Nat.le_of_ble_eq_true rfl) ?_
          refine go_getR (k' := 12) (L0 := 10) (P' := 141) (pc' := 146) dX11_move_143 rfl rf_11_45 rfl rfl (by omega) ?_
          refine go_aload_n (pc' := 147) dX11_move_146 rfl rfl (Nat.le_of_ble_eq_true rfl) ?_
          refine go_getI (pc' := 150) dX11_move_147 rfl rf_11_166 rfl ?_
          refine go_iload_n (pc' := 151) dX11_move_150 rfl rfl ?_
          obtain ⟨g35, h⟩ := gd h
          refine go_iast (pc' := 152) dX11_move_151 rfl g35 ?_
          refine go_aload_n (pc' := 153) dX11_move_152 rfl rfl (Nat.le_of_ble_eq_true rfl) ?_
          refine go_getR (k' := 12) (L0 := 10) (P' := 142) (pc' := 156) dX11_move_153 rfl rf_11_48 rfl rfl (by omega) ?_
          refine go_aload_n (pc' := 157) dX11_move_156 rfl rfl (Nat.le_of_ble_eq_true rfl) ?_
          refine go_getI (pc' := 160) dX11_move_157 rfl rf_11_166 rfl ?_
          refine go_iload_n (pc' := 161) dX11_move_160 rfl rfl ?_
          obtain ⟨g36, h⟩ := gd h
          refine go_iast (pc' := 162) dX11_move_161 rfl g36 ?_
          refine go_aload_n (pc' := 163) dX11_move_162 rfl rfl (Nat.le_of_ble_eq_true rfl) ?_
          refine go_getR (k' := 12) (L0 := 10) (P' := 143) (pc' := 166) dX11_move_163 rfl rf_11_51 rfl rfl (by omega) ?_
          refine go_aload_n (pc' := 167) dX11_move_166 rfl rfl (Nat.le_of_ble_eq_true rfl) ?_
          refine go_getI (pc' := 170) dX11_move_167 rfl rf_11_166 rfl ?_
          refine go_iload_n (pc' := 171) dX11_move_170 rfl rfl ?_
          obtain ⟨g37, h⟩ := gd h
          refine go_iast (pc' := 172) dX11_move_171 rfl g37 ?_
          refine go_aload_n (pc' := 173) dX11_move_172 rfl rfl (Nat.le_of_ble_eq_true rfl) ?_
          refine go_getR (k' := 12) (L0 := 10) (P' := 144) (pc' := 176) dX11_move_173 rfl rf_11_54 rfl rfl (by omega) ?_
          refine go_aload_n (pc' := 177) dX11_move_176 rfl rfl (Nat.le_of_ble_eq_true rfl) ?_
          refine go_getI (pc' := 180) dX11_move_177 rfl rf_11_166 rfl ?_
          refine go_iload (pc' := 182) dX11_move_180 rfl rfl ?_
          obtain ⟨g38, h⟩ := gd h
          refine go_iast (pc' := 183) dX11_move_182 rfl g38 ?_
          refine go_aload_n (pc' := 184) dX11_move_183 rfl rfl (Nat.le_of_ble_eq_true rfl) ?_
          refine go_dup (pc' := 185) dX11_move_184 rfl (Nat.ne_of_beq_eq_false rfl) ?_
          refine go_getI (pc' := 188) dX11_move_185 rfl rf_11_166 rfl ?_
          refine go_iconst (pc' := 189) dX11_move_188 rfl (r32_c rfl) ?_
          obtain ⟨g39, h⟩ := gd h
          refine go_iadd (pc' := 190) dX11_move_189 rfl g39 ?_
          refine go_putI (pc' := 193) dX11_move_190 rfl rf_11_166 rfl ?_
          refine go_aload_n (pc' := 194) dX11_move_193 rfl rfl (Nat.le_of_ble_eq_true rfl) ?_
          obtain ⟨v40, k41, h⟩ := bd h
          have k41 := l_M_fresh (d + 2) n e (hset (hset (hset (hset (hset v31.2 141 (v31.2 129 15) x1) 142 ((hset v31.2 141 (v31.2 129 15) x1) 129 15) x2) 143 ((hset (hset v31.2 141 (v31.2 129 15) x1) 142 ((hset v31.2 141 (v31.2 129 15) x1) 129 15) x2) 129 15) x3) 144 ((hset (hset (hset v31.2 141 (v31.2 129 15) x1) 142 ((hset v31.2 141 (v31.2 129 15) x1) 129 15) x2) 143 ((hset (hset v31.2 141 (v31.2 129 15) x1) 142 ((hset v31.2 141 (v31.2 129 15) x1) 129 15) x2) 129 15) x3) 129 15) x4) 129 15 (((hset (hset (hset (hset v31.2 141 (v31.2 129 15) x1) 142 ((hset v31.2 141 (v31.2 129 15) x1) 129 15) x2) 143 ((hset (hset v31.2 141 (v31.2 129 15) x1) 142 ((hset v31.2 141 (v31.2 129 15) x1) 129 15) x2) 129 15) x3) 144 ((hset (hset (hset v31.2 141 (v31.2 129 15) x1) 142 ((hset v31.2 141 (v31.2 129 15) x1) 129 15) x2) 143 ((hset (hset v31.2 141 (v31.2 129 15) x1) 142 ((hset v31.2 141 (v31.2 129 15) x1) 129 15) x2) 129 15) x3) 129 15) x4) 129 15) + 1)) _ k41
          refine go_call (kc := 178) (Mc := mt178) (v := none) (w' := (true, n, e, v40)) (pc' := 197) (st' := []) [pvR 11 0 129] [] (Or.inl rfl) dX11_move_194 rfl rm_11_194 mtE178 rfl rfl rfl (Nat.le_of_ble_eq_true rfl) (Or.inr ⟨_, _, 129, rfl, Or.inl rfl⟩) k41 rfl ?_
          refine go_iload (pc' := 199) dX11_move_197 rfl rfl ?_
          cases h
          exact go_iret dX11_move_199 rfl rfl
        · rw [if_neg (show ¬ (v31.1 = 0) from c42)] at h
          refine go_iconst (pc' := 133) dX11_move_132 rfl (r32_c rfl) ?_
          cases h
          exact go_iret dX11_move_133 rfl rfl
      clear h
      have h := k29
      refine go_if_ne (t := 116) (pc' := 112) dX11_move_109 rfl rfl (fun c43 => ?_) (fun c43 => ?_)
      · rw [if_pos (show j3 ≠ 0 from c43)] at h
        refine go_iload (pc' := 118) dX11_move_116 rfl rfl ?_
        refine go_if_eq (t := 125) (pc' := 121) dX11_move_118 rfl rfl (fun c30 => ?_) (fun c30 => ?_)
        · rw [if_pos (show j15 = 0 from c30)] at h
          refine go_iconst (pc' := 126) dX11_move_125 rfl (r32_c rfl) ?_
          cases h
          exact k29J
        · rw [if_neg (show ¬ (j15 = 0) from c30)] at h
          refine go_iconst (pc' := 122) dX11_move_121 rfl (r32_c rfl) ?_
          refine go_goto (t := 126) dX11_move_122 rfl ?_
          cases h
          exact k29J
      · rw [if_neg (show ¬ (j3 ≠ 0) from c43)] at h
        refine go_iconst (pc' := 113) dX11_move_112 rfl (r32_c rfl) ?_
        refine go_goto (t := 126) dX11_move_113 rfl ?_
        cases h
        exact k29J
    clear h
    have h := k16
    refine go_if_eq (t := 103) (pc' := 57) dX11_move_54 rfl rfl (fun c44 => ?_) (fun c44 => ?_)
    · rw [if_pos (show j3 = 0 from c44)] at h
      refine go_iconst (pc' := 104) dX11_move_103 rfl (r32_c rfl) ?_
      cases h
      exact k16J
    · rw [if_neg (show ¬ (j3 = 0) from c44)] at h
      refine go_aload_n (pc' := 58) dX11_move_57 rfl rfl (Nat.le_of_ble_eq_true rfl) ?_
      refine go_iload_n (pc' := 59) dX11_move_58 rfl rfl ?_
      refine go_iload_n (pc' := 60) dX11_move_59 rfl rfl ?_
      obtain ⟨v17, k18, h⟩ := bd h
      have k18 := l_M_isPlain (d + 2) n e σ x1 x2 _ k18
      refine go_call (kc := 173) (Mc := mt173) (v := some (pvI v17)) (w' := (true, n, e, σ)) (pc' := 63) (st' := [pvI v17]) [pvR 11 0 129, pvI x1, pvI x2] [] (Or.inl rfl) dX11_move_60 rfl rm_11_180 mtE173 rfl rfl rfl (Nat.le_of_ble_eq_true rfl) (Or.inr ⟨_, _, 129, rfl, Or.inl rfl⟩) k18 rfl ?_
      refine go_if_eq (t := 99) (pc' := 66) dX11_move_63 rfl rfl (fun c27 => ?_) (fun c27 => ?_)
      · rw [if_pos (show v17 = 0 from c27)] at h
        refine go_iconst (pc' := 100) dX11_move_99 rfl (r32_c rfl) ?_
        refine go_goto (t := 104) dX11_move_100 rfl ?_
        cases h
        exact k16J
      · rw [if_neg (show ¬ (v17 = 0) from c27)] at h
        refine go_aload_n (pc' := 67) dX11_move_66 rfl rfl (Nat.le_of_ble_eq_true rfl) ?_
        refine go_iload_n (pc' := 68) dX11_move_67 rfl rfl ?_
        refine go_iload_n (pc' := 69) dX11_move_68 rfl rfl ?_
        obtain ⟨v19, k20, h⟩ := bd h
        have k20 := l_M_isPlain (d + 2) n e σ x1 x3 _ k20
        refine go_call (kc := 173) (Mc := mt173) (v := some (pvI v19)) (w' := (true, n, e, σ)) (pc' := 72) (st' := [pvI v19]) [pvR 11 0 129, pvI x1, pvI x3] [] (Or.inl rfl) dX11_move_69 rfl rm_11_180 mtE173 rfl rfl rfl (Nat.le_of_ble_eq_true rfl) (Or.inr ⟨_, _, 129, rfl, Or.inl rfl⟩) k20 rfl ?_
        refine go_if_eq (t := 99) (pc' := 75) dX11_move_72 rfl rfl (fun c26 => ?_) (fun c26 => ?_)
        · rw [if_pos (show v19 = 0 from c26)] at h
          refine go_iconst (pc' := 100) dX11_move_99 rfl (r32_c rfl) ?_
          refine go_goto (t := 104) dX11_move_100 rfl ?_
          cases h
          exact k16J
        · rw [if_neg (show ¬ (v19 = 0) from c26)] at h
          refine go_aload_n (pc' := 76) dX11_move_75 rfl rfl (Nat.le_of_ble_eq_true rfl) ?_
          refine go_iconst (pc' := 77) dX11_move_76 rfl (r32_c rfl) ?_
          refine go_iload (pc' := 79) dX11_move_77 rfl rfl ?_
          obtain ⟨v21, k22, h⟩ := bd h
          have k22 := l_M_isPlain (d + 2) n e σ 0 x4 _ k22
          refine go_call (kc := 173) (Mc := mt173) (v := some (pvI v21)) (w' := (true, n, e, σ)) (pc' := 82) (st' := [pvI v21]) [pvR 11 0 129, pvI 0, pvI x4] [] (Or.inl rfl) dX11_move_79 rfl rm_11_180 mtE173 rfl rfl rfl (Nat.le_of_ble_eq_true rfl) (Or.inr ⟨_, _, 129, rfl, Or.inl rfl⟩) k22 rfl ?_
          refine go_if_eq (t := 99) (pc' := 85) dX11_move_82 rfl rfl (fun c25 => ?_) (fun c25 => ?_)
          · rw [if_pos (show v21 = 0 from c25)] at h
            refine go_iconst (pc' := 100) dX11_move_99 rfl (r32_c rfl) ?_
            refine go_goto (t := 104) dX11_move_100 rfl ?_
            cases h
            exact k16J
          · rw [if_neg (show ¬ (v21 = 0) from c25)] at h
            refine go_iload_n (pc' := 86) dX11_move_85 rfl rfl ?_
            refine go_iload_n (pc' := 87) dX11_move_86 rfl rfl ?_
            refine go_icmp_ge (t := 99) (pc' := 90) dX11_move_87 rfl rfl (fun c24 => ?_) (fun c24 => ?_)
            · rw [if_pos (show x2 ≤ x3 from c24)] at h
              refine go_iconst (pc' := 100) dX11_move_99 rfl (r32_c rfl) ?_
              refine go_goto (t := 104) dX11_move_100 rfl ?_
              cases h
              exact k16J
            · rw [if_neg (show ¬ (x2 ≤ x3) from c24)] at h
              refine go_aload_n (pc' := 91) dX11_move_90 rfl rfl (Nat.le_of_ble_eq_true rfl) ?_
              refine go_getI (pc' := 94) dX11_move_91 rfl rf_11_166 rfl ?_
              refine go_bipush (pc' := 96) dX11_move_94 rfl (r32_c rfl) (by decide) ?_
              refine go_icmp_ne (t := 103) (pc' := 99) dX11_move_96 rfl rfl (fun c23 => ?_) (fun c23 => ?_)
              · rw [if_pos (show (σ 129 15) ≠ 10 from c23)] at h
                refine go_iconst (pc' := 104) dX11_move_103 rfl (r32_c rfl) ?_
                cases h
                exact k16J
              · rw [if_neg (show ¬ ((σ 129 15) ≠ 10) from c23)] at h
                refine go_iconst (pc' := 100) dX11_move_99 rfl (r32_c rfl) ?_
                refine go_goto (t := 104) dX11_move_100 rfl ?_
                cases h
                exact k16J
  clear h
  have h := k4
  refine go_if_eq (t := 49) (pc' := 13) dX11_move_10 rfl rfl (fun c45 => ?_) (fun c45 => ?_)
  · rw [if_pos (show v1 = 0 from c45)] at h
    refine go_iconst (pc' := 50) dX11_move_49 rfl (r32_c rfl) ?_
    cases h
    exact k4J
  · rw [if_neg (show ¬ (v1 = 0) from c45)] at h
    refine go_aload_n (pc' := 14) dX11_move_13 rfl rfl (Nat.le_of_ble_eq_true rfl) ?_
    refine go_iload_n (pc' := 15) dX11_move_14 rfl rfl ?_
    refine go_iload_n (pc' := 16) dX11_move_15 rfl rfl ?_
    obtain ⟨v5, k6, h⟩ := bd h
    have k6 := l_M_is (d + 0) n e σ x1 x2 _ k6
    refine go_call (kc := 170) (Mc := mt170) (v := some (pvI v5)) (w' := (true, n, e, σ)) (pc' := 19) (st' := [pvI v5]) [pvR 11 0 129, pvI x1, pvI x2] [] (Or.inl rfl) dX11_move_16 rfl rm_11_156 mtE170 rfl rfl rfl (Nat.le_of_ble_eq_true rfl) (Or.inr ⟨_, _, 129, rfl, Or.inl rfl⟩) k6 rfl ?_
    refine go_if_eq (t := 49) (pc' := 22) dX11_move_19 rfl rfl (fun c14 => ?_) (fun c14 => ?_)
    · rw [if_pos (show v5 = 0 from c14)] at h
      refine go_iconst (pc' := 50) dX11_move_49 rfl (r32_c rfl) ?_
      cases h
      exact k4J
    · rw [if_neg (show ¬ (v5 = 0) from c14)] at h
      refine go_iload_n (pc' := 23) dX11_move_22 rfl rfl ?_
      refine go_if_le (t := 49) (pc' := 26) dX11_move_23 rfl rfl (fun c13 => ?_) (fun c13 => ?_)
      · rw [if_pos (show x2 ≤ 0 from c13)] at h
        refine go_iconst (pc' := 50) dX11_move_49 rfl (r32_c rfl) ?_
        cases h
        exact k4J
      · rw [if_neg (show ¬ (x2 ≤ 0) from c13)] at h
        refine go_aload_n (pc' := 27) dX11_move_26 rfl rfl (Nat.le_of_ble_eq_true rfl) ?_
        refine go_iload_n (pc' := 28) dX11_move_27 rfl rfl ?_
        refine go_iload_n (pc' := 29) dX11_move_28 rfl rfl ?_
        obtain ⟨v7, k8, h⟩ := bd h
        have k8 := l_M_is (d + 0) n e σ x1 x3 _ k8
        refine go_call (kc := 170) (Mc := mt170) (v := some (pvI v7)) (w' := (true, n, e, σ)) (pc' := 32) (st' := [pvI v7]) [pvR 11 0 129, pvI x1, pvI x3] [] (Or.inl rfl) dX11_move_29 rfl rm_11_156 mtE170 rfl rfl rfl (Nat.le_of_ble_eq_true rfl) (Or.inr ⟨_, _, 129, rfl, Or.inl rfl⟩) k8 rfl ?_
        refine go_if_eq (t := 49) (pc' := 35) dX11_move_32 rfl rfl (fun c12 => ?_) (fun c12 => ?_)
        · rw [if_pos (show v7 = 0 from c12)] at h
          refine go_iconst (pc' := 50) dX11_move_49 rfl (r32_c rfl) ?_
          cases h
          exact k4J
        · rw [if_neg (show ¬ (v7 = 0) from c12)] at h
          refine go_aload_n (pc' := 36) dX11_move_35 rfl rfl (Nat.le_of_ble_eq_true rfl) ?_
          refine go_iconst (pc' := 37) dX11_move_36 rfl (r32_c rfl) ?_
          refine go_iload (pc' := 39) dX11_move_37 rfl rfl ?_
          obtain ⟨v9, k10, h⟩ := bd h
          have k10 := l_M_is (d + 0) n e σ 0 x4 _ k10
          refine go_call (kc := 170) (Mc := mt170) (v := some (pvI v9)) (w' := (true, n, e, σ)) (pc' := 42) (st' := [pvI v9]) [pvR 11 0 129, pvI 0, pvI x4] [] (Or.inl rfl) dX11_move_39 rfl rm_11_156 mtE170 rfl rfl rfl (Nat.le_of_ble_eq_true rfl) (Or.inr ⟨_, _, 129, rfl, Or.inl rfl⟩) k10 rfl ?_
          refine go_if_eq (t := 49) (pc' := 45) dX11_move_42 rfl rfl (fun c11 => ?_) (fun c11 => ?_)
          · rw [if_pos (show v9 = 0 from c11)] at h
            refine go_iconst (pc' := 50) dX11_move_49 rfl (r32_c rfl) ?_
            cases h
            exact k4J
          · rw [if_neg (show ¬ (v9 = 0) from c11)] at h
            refine go_iconst (pc' := 46) dX11_move_45 rfl (r32_c rfl) ?_
            refine go_goto (t := 50) dX11_move_46 rfl ?_
            cases h
            exact k4J

set_option maxRecDepth 10000 in
theorem l_M_asNow (d : Nat) (n e : Nat) (σ : Hp) (x1 : Int) (r : Int × Hp) (h : f_M_asNow σ x1 = some r) : Ev (d + 2) 183 [pvR 11 0 129, pvI x1] (true, n, e, σ) (0, some (pvI r.1), true, n, e, r.2) := by
  unfold f_M_asNow at h
  refine Ev.of mtE183 rfl rfl rfl rfl ?_
  show Go none (Ev (d + 1)) mt183 0 [some (pvR 11 0 129), some (pvI x1), none] [] (true, n, e, σ) (0, some (pvI r.1), true, n, e, r.2)
  refine go_aload_n (pc' := 1) dX11_asNow_0 rfl rfl (Nat.le_of_ble_eq_true rfl) ?_
  refine go_iconst (pc' := 2) dX11_asNow_1 rfl (r32_c rfl) ?_
  obtain ⟨v1, k2, h⟩ := bd h
  have k2 := l_M_holds (d + 0) n e σ 0 _ k2
  refine go_call (kc := 174) (Mc := mt174) (v := some (pvI v1.1)) (w' := (true, n, e, v1.2)) (pc' := 5) (st' := [pvI v1.1]) [pvR 11 0 129, pvI 0] [] (Or.inl rfl) dX11_asNow_2 rfl rm_11_185 mtE174 rfl rfl rfl (Nat.le_of_ble_eq_true rfl) (Or.inr ⟨_, _, 129, rfl, Or.inl rfl⟩) k2 rfl ?_
  refine go_pop (pc' := 6) dX11_asNow_5 rfl (Nat.ne_of_beq_eq_false rfl) ?_
  refine go_aload_n (pc' := 7) dX11_asNow_6 rfl rfl (Nat.le_of_ble_eq_true rfl) ?_
  refine go_getZ (pc' := 10) dX11_asNow_7 rfl rf_11_199 rfl ?_
  refine go_istore_n (L' := [some (pvR 11 0 129), some (pvI x1), some (pvI (v1.2 129 16))]) (pc' := 11) dX11_asNow_10 rfl (Nat.le_of_ble_eq_true rfl) rfl ?_
  refine go_aload_n (pc' := 12) dX11_asNow_11 rfl rfl (Nat.le_of_ble_eq_true rfl) ?_
  refine go_iload_n (pc' := 13) dX11_asNow_12 rfl rfl ?_
  obtain ⟨g3, h⟩ := gd h
  refine go_putZ (pc' := 16) dX11_asNow_13 rfl rf_11_199 rfl g3 ?_
  refine go_aload_n (pc' := 17) dX11_asNow_16 rfl rfl (Nat.le_of_ble_eq_true rfl) ?_
  obtain ⟨v4, k5, h⟩ := bd h
  have k5 := l_M_fresh (d + 0) n e (hset v1.2 129 16 x1) _ k5
  refine go_call (kc := 178) (Mc := mt178) (v := none) (w' := (true, n, e, v4)) (pc' := 20) (st' := []) [pvR 11 0 129] [] (Or.inl rfl) dX11_asNow_17 rfl rm_11_194 mtE178 rfl rfl rfl (Nat.le_of_ble_eq_true rfl) (Or.inr ⟨_, _, 129, rfl, Or.inl rfl⟩) k5 rfl ?_
  refine go_iload_n (pc' := 21) dX11_asNow_20 rfl rfl ?_
  obtain ⟨g6, h⟩ := gd h
  cases h
  exact go_zret dX11_asNow_21 rfl g6 rfl

set_option maxRecDepth 10000 in
theorem l_M_depth_5 (d : Nat) (n : Nat) (e : Nat) (σ : Hp) (x1 : Int) (x2 : Int) {out : Out} : ∀ (F : Nat) (y1 : Int) (y2 : Int) (j7 : Int × Int), f_M_depth_5 σ x1 F y1 y2 = some j7 → Go none (Ev (d + 2)) mt185 25 [some (pvR 11 0 129), some (pvI x1), some (pvI x2), some (pvI j7.1), some (pvI j7.2)] [] (true, n, e, σ) out → Go none (Ev (d + 2)) mt185 5 [some (pvR 11 0 129), some (pvI x1), some (pvI x2), some (pvI y1), some (pvI y2)] [] (true, n, e, σ) out := by
  intro F
  induction F with
  | zero =>
    intro _ _ _ h
    intro _
    rw [f_M_depth_5] at h
    cases h
  | succ F ih =>
    intro y1 y2 j7 h hx
    rw [f_M_depth_5] at h
    refine go_iload (pc' := 7) dX11_depth_5 rfl rfl ?_
    refine go_if_le (t := 25) (pc' := 10) dX11_depth_7 rfl rfl (fun c6 => ?_) (fun c6 => ?_)
    · rw [if_pos (show y2 ≤ 0 from c6)] at h
      cases h
      exact hx
    · rw [if_neg (show ¬ (y2 ≤ 0) from c6)] at h
      obtain ⟨g3, h⟩ := gd h
      refine go_iinc (L' := [some (pvR 11 0 129), some (pvI x1), some (pvI x2), some (pvI (y1 + 1)), some (pvI y2)]) (pc' := 13) dX11_depth_10 rfl rfl g3 rfl ?_
      refine go_aload_n (pc' := 14) dX11_depth_13 rfl rfl (Nat.le_of_ble_eq_true rfl) ?_
      refine go_iload_n (pc' := 15) dX11_depth_14 rfl rfl ?_
      refine go_iload (pc' := 17) dX11_depth_15 rfl rfl ?_
      obtain ⟨v4, k5, h⟩ := bd h
      have k5 := l_M_now (d + 0) n e σ x1 y2 _ k5
      refine go_call (kc := 181) (Mc := mt181) (v := some (pvI v4)) (w' := (true, n, e, σ)) (pc' := 20) (st' := [pvI v4]) [pvR 11 0 129, pvI x1, pvI y2] [] (Or.inl rfl) dX11_depth_17 rfl rm_11_173 mtE181 rfl rfl rfl (Nat.le_of_ble_eq_true rfl) (Or.inr ⟨_, _, 129, rfl, Or.inl rfl⟩) k5 rfl ?_
      refine go_istore (L' := [some (pvR 11 0 129), some (pvI x1), some (pvI x2), some (pvI (y1 + 1)), some (pvI v4)]) (pc' := 22) dX11_depth_20 rfl (Nat.le_of_ble_eq_true rfl) rfl ?_
      refine go_goto (t := 5) dX11_depth_22 rfl ?_
      exact ih (y1 + 1) v4 _ h hx

set_option maxRecDepth 10000 in
theorem l_M_depth (d : Nat) (n e : Nat) (σ : Hp) (x1 : Int) (x2 : Int) (r : Int) (h : f_M_depth σ x1 x2 = some r) : Ev (d + 3) 185 [pvR 11 0 129, pvI x1, pvI x2] (true, n, e, σ) (0, some (pvI r), true, n, e, σ) := by
  unfold f_M_depth at h
  refine Ev.of mtE185 rfl rfl rfl rfl ?_
  show Go none (Ev (d + 2)) mt185 0 [some (pvR 11 0 129), some (pvI x1), some (pvI x2), none, none] [] (true, n, e, σ) (0, some (pvI r), true, n, e, σ)
  refine go_iconst (pc' := 1) dX11_depth_0 rfl (r32_c rfl) ?_
  refine go_istore_n (L' := [some (pvR 11 0 129), some (pvI x1), some (pvI x2), some (pvI 0), none]) (pc' := 2) dX11_depth_1 rfl (Nat.le_of_ble_eq_true rfl) rfl ?_
  refine go_iload_n (pc' := 3) dX11_depth_2 rfl rfl ?_
  refine go_istore (L' := [some (pvR 11 0 129), some (pvI x1), some (pvI x2), some (pvI 0), some (pvI x2)]) (pc' := 5) dX11_depth_3 rfl (Nat.le_of_ble_eq_true rfl) rfl ?_
  obtain ⟨j8, k9, h⟩ := bd h
  refine l_M_depth_5 d n e σ x1 x2 zFuel 0 x2 _ k9 ?_
  refine go_iload_n (pc' := 26) dX11_depth_25 rfl rfl ?_
  cases h
  exact go_iret dX11_depth_26 rfl rfl

set_option maxRecDepth 10000 in
theorem l_M_seen_98 (d : Nat) (n : Nat) (e : Nat) (σ : Hp) (x1 : Int) (x2 : Int) (j9 : Int) (y5 : Int) {out : Out} : ∀ (F : Nat) (y18 : Int) (y19 : Int) (j29 : Int × Int), f_M_seen_98 σ x1 F y18 y19 = some j29 → Go none (Ev (d + 2)) mt186 138 [some (pvR 11 0 129), some (pvI x1), some (pvI x2), some (pvI j29.1), some (pvI y5), some (pvI j9), some (pvI j29.2)] [] (true, n, e, σ) out → Go none (Ev (d + 2)) mt186 98 [some (pvR 11 0 129), some (pvI x1), some (pvI x2), some (pvI y18), some (pvI y5), some (pvI j9), some (pvI y19)] [] (true, n, e, σ) out := by
  intro F
  induction F with
  | zero =>
    intro _ _ _ h
    intro _
    rw [f_M_seen_98] at h
    cases h
  | succ F ih =>
    intro y18 y19 j29 h hx
    rw [f_M_seen_98] at h
    refine go_iload (pc' := 100) dX11_seen_98 rfl rfl ?_
    refine go_if_le (t := 138) (pc' := 103) dX11_seen_100 rfl rfl (fun c28 => ?_) (fun c28 => ?_)
    · rw [if_pos (show y19 ≤ 0 from c28)] at h
      cases h
      exact hx
    · rw [if_neg (show ¬ (y19 ≤ 0) from c28)] at h
      refine go_iload_n (pc' := 104) dX11_seen_103 rfl rfl ?_
      refine go_aload_n (pc' := 105) dX11_seen_104 rfl rfl (Nat.le_of_ble_eq_true rfl) ?_
      refine go_getR (k' := 12) (L0 := 36) (P' := 136) (pc' := 108) dX11_seen_105 rfl rf_11_30 rfl rfl (by omega) ?_
      refine go_bipush (pc' := 110) dX11_seen_108 rfl (r32_c rfl) (by decide) ?_
      refine go_iload_n (pc' := 111) dX11_seen_110 rfl rfl ?_
      obtain ⟨g20, h⟩ := gd h
      refine go_imul (pc' := 112) dX11_seen_111 rfl g20 ?_
      refine go_iload (pc' := 114) dX11_seen_112 rfl rfl ?_
      obtain ⟨g21, h⟩ := gd h
      refine go_iadd (pc' := 115) dX11_seen_114 rfl g21 ?_
      obtain ⟨g22, h⟩ := gd h
      refine go_iald (pc' := 116) dX11_seen_115 rfl g22 ?_
      obtain ⟨j23, k24, h⟩ := bd h
      have k24J : Go none (Ev (d + 2)) mt186 124 [some (pvR 11 0 129), some (pvI x1), some (pvI x2), some (pvI y18), some (pvI y5), some (pvI j9), some (pvI y19)] [pvI j23, pvI y18] (true, n, e, σ) out := by
        refine go_iand (pc' := 125) dX11_seen_124 rfl ?_
        refine go_istore_n (L' := [some (pvR 11 0 129), some (pvI x1), some (pvI x2), some (pvI (iand y18 j23)), some (pvI y5), some (pvI j9), some (pvI y19)]) (pc' := 126) dX11_seen_125 rfl (Nat.le_of_ble_eq_true rfl) rfl ?_
        refine go_aload_n (pc' := 127) dX11_seen_126 rfl rfl (Nat.le_of_ble_eq_true rfl) ?_
        refine go_iload_n (pc' := 128) dX11_seen_127 rfl rfl ?_
        refine go_iload (pc' := 130) dX11_seen_128 rfl rfl ?_
        obtain ⟨v25, k26, h⟩ := bd h
        have k26 := l_M_now (d + 0) n e σ x1 y19 _ k26
        refine go_call (kc := 181) (Mc := mt181) (v := some (pvI v25)) (w' := (true, n, e, σ)) (pc' := 133) (st' := [pvI v25]) [pvR 11 0 129, pvI x1, pvI y19] [] (Or.inl rfl) dX11_seen_130 rfl rm_11_173 mtE181 rfl rfl rfl (Nat.le_of_ble_eq_true rfl) (Or.inr ⟨_, _, 129, rfl, Or.inl rfl⟩) k26 rfl ?_
        refine go_istore (L' := [some (pvR 11 0 129), some (pvI x1), some (pvI x2), some (pvI (iand y18 j23)), some (pvI y5), some (pvI j9), some (pvI v25)]) (pc' := 135) dX11_seen_133 rfl (Nat.le_of_ble_eq_true rfl) rfl ?_
        refine go_goto (t := 98) dX11_seen_135 rfl ?_
        exact ih (iand y18 j23) v25 _ h hx
      clear h
      have h := k24
      refine go_if_ne (t := 123) (pc' := 119) dX11_seen_116 rfl rfl (fun c27 => ?_) (fun c27 => ?_)
      · rw [if_pos (show (σ 136 ((12 * x1) + y19)) ≠ 0 from c27)] at h
        refine go_iconst (pc' := 124) dX11_seen_123 rfl (r32_c rfl) ?_
        cases h
        exact k24J
      · rw [if_neg (show ¬ ((σ 136 ((12 * x1) + y19)) ≠ 0) from c27)] at h
        refine go_iconst (pc' := 120) dX11_seen_119 rfl (r32_c rfl) ?_
        refine go_goto (t := 124) dX11_seen_120 rfl ?_
        cases h
        exact k24J

set_option maxRecDepth 10000 in
theorem l_M_seen_22 (d : Nat) (n : Nat) (e : Nat) (σ : Hp) (x1 : Int) (x2 : Int) {out : Out} : ∀ (F : Nat) (y4 : Int) (y5 : Int) (j36 : Int × Int), f_M_seen_22 σ x1 x2 F y4 y5 = some j36 → Go none (Ev (d + 2)) mt186 144 [some (pvR 11 0 129), some (pvI x1), some (pvI x2), some (pvI j36.1), some (pvI j36.2), none, none] [] (true, n, e, σ) out → Go none (Ev (d + 2)) mt186 22 [some (pvR 11 0 129), some (pvI x1), some (pvI x2), some (pvI y4), some (pvI y5), none, none] [] (true, n, e, σ) out := by
  intro F
  induction F with
  | zero =>
    intro _ _ _ h
    intro _
    rw [f_M_seen_22] at h
    cases h
  | succ F ih =>
    intro y4 y5 j36 h hx
    rw [f_M_seen_22] at h
    refine go_iload (pc' := 24) dX11_seen_22 rfl rfl ?_
    refine go_bipush (pc' := 26) dX11_seen_24 rfl (r32_c rfl) (by decide) ?_
    refine go_icmp_ge (t := 144) (pc' := 29) dX11_seen_26 rfl rfl (fun c35 => ?_) (fun c35 => ?_)
    · rw [if_pos (show 12 ≤ y5 from c35)] at h
      cases h
      exact hx
    · rw [if_neg (show ¬ (12 ≤ y5) from c35)] at h
      refine go_aload_n (pc' := 30) dX11_seen_29 rfl rfl (Nat.le_of_ble_eq_true rfl) ?_
      refine go_getR (k' := 12) (L0 := 36) (P' := 131) (pc' := 33) dX11_seen_30 rfl rf_11_15 rfl rfl (by omega) ?_
      refine go_bipush (pc' := 35) dX11_seen_33 rfl (r32_c rfl) (by decide) ?_
      refine go_iload_n (pc' := 36) dX11_seen_35 rfl rfl ?_
      obtain ⟨g6, h⟩ := gd h
      refine go_imul (pc' := 37) dX11_seen_36 rfl g6 ?_
      refine go_iload_n (pc' := 38) dX11_seen_37 rfl rfl ?_
      obtain ⟨g7, h⟩ := gd h
      refine go_iadd (pc' := 39) dX11_seen_38 rfl g7 ?_
      obtain ⟨g8, h⟩ := gd h
      refine go_iald (pc' := 40) dX11_seen_39 rfl g8 ?_
      refine go_iconst (pc' := 41) dX11_seen_40 rfl (r32_c rfl) ?_
      obtain ⟨j9, k10, h⟩ := bd h
      have k10J : Go none (Ev (d + 2)) mt186 83 [some (pvR 11 0 129), some (pvI x1), some (pvI x2), some (pvI y4), some (pvI y5), none, none] [pvI j9] (true, n, e, σ) out := by
        refine go_istore (L' := [some (pvR 11 0 129), some (pvI x1), some (pvI x2), some (pvI y4), some (pvI y5), some (pvI j9), none]) (pc' := 85) dX11_seen_83 rfl (Nat.le_of_ble_eq_true rfl) rfl ?_
        refine go_iload (pc' := 87) dX11_seen_85 rfl rfl ?_
        obtain ⟨j16, k17, h⟩ := bd h
        have k17J : Go none (Ev (d + 2)) mt186 96 [some (pvR 11 0 129), some (pvI x1), some (pvI x2), some (pvI y4), some (pvI y5), some (pvI j9), none] [pvI j16] (true, n, e, σ) out := by
          refine go_istore (L' := [some (pvR 11 0 129), some (pvI x1), some (pvI x2), some (pvI y4), some (pvI y5), some (pvI j9), some (pvI j16)]) (pc' := 98) dX11_seen_96 rfl (Nat.le_of_ble_eq_true rfl) rfl ?_
          obtain ⟨j30, k31, h⟩ := bd h
          refine l_M_seen_98 d n e σ x1 x2 j9 y5 zFuel y4 j16 _ k31 ?_
          obtain ⟨g32, h⟩ := gd h
          refine go_iinc (L' := [some (pvR 11 0 129), some (pvI x1), some (pvI x2), some (pvI j30.1), some (pvI (y5 + 1)), some (pvI j9), some (pvI j30.2)]) (pc' := 141) dX11_seen_138 rfl rfl g32 rfl ?_
          refine go_goto (t := 22) dX11_seen_141 rfl ?_
          exact go_sub (ih j30.1 (y5 + 1) _ h hx) ⟨Or.inr rfl, Or.inr rfl, Or.inr rfl, Or.inr rfl, Or.inr rfl, Or.inl rfl, Or.inl rfl, trivial⟩
        clear h
        have h := k17
        refine go_if_eq (t := 95) (pc' := 90) dX11_seen_87 rfl rfl (fun c33 => ?_) (fun c33 => ?_)
        · rw [if_pos (show j9 = 0 from c33)] at h
          refine go_iconst (pc' := 96) dX11_seen_95 rfl (r32_c rfl) ?_
          cases h
          exact k17J
        · rw [if_neg (show ¬ (j9 = 0) from c33)] at h
          refine go_iload (pc' := 92) dX11_seen_90 rfl rfl ?_
          refine go_goto (t := 96) dX11_seen_92 rfl ?_
          cases h
          exact k17J
      clear h
      have h := k10
      refine go_icmp_ne (t := 72) (pc' := 44) dX11_seen_41 rfl rfl (fun c34 => ?_) (fun c34 => ?_)
      · rw [if_pos (show (σ 131 ((12 * x1) + x2)) ≠ 1 from c34)] at h
        refine go_iload (pc' := 74) dX11_seen_72 rfl rfl ?_
        refine go_iload_n (pc' := 75) dX11_seen_74 rfl rfl ?_
        refine go_icmp_ne (t := 82) (pc' := 78) dX11_seen_75 rfl rfl (fun c11 => ?_) (fun c11 => ?_)
        · rw [if_pos (show y5 ≠ x2 from c11)] at h
          refine go_iconst (pc' := 83) dX11_seen_82 rfl (r32_c rfl) ?_
          cases h
          exact k10J
        · rw [if_neg (show ¬ (y5 ≠ x2) from c11)] at h
          refine go_iconst (pc' := 79) dX11_seen_78 rfl (r32_c rfl) ?_
          refine go_goto (t := 83) dX11_seen_79 rfl ?_
          cases h
          exact k10J
      · rw [if_neg (show ¬ ((σ 131 ((12 * x1) + x2)) ≠ 1) from c34)] at h
        refine go_aload_n (pc' := 45) dX11_seen_44 rfl rfl (Nat.le_of_ble_eq_true rfl) ?_
        refine go_getR (k' := 12) (L0 := 36) (P' := 134) (pc' := 48) dX11_seen_45 rfl rf_11_24 rfl rfl (by omega) ?_
        refine go_bipush (pc' := 50) dX11_seen_48 rfl (r32_c rfl) (by decide) ?_
        refine go_iload_n (pc' := 51) dX11_seen_50 rfl rfl ?_
        obtain ⟨g12, h⟩ := gd h
        refine go_imul (pc' := 52) dX11_seen_51 rfl g12 ?_
        refine go_iload_n (pc' := 53) dX11_seen_52 rfl rfl ?_
        obtain ⟨g13, h⟩ := gd h
        refine go_iadd (pc' := 54) dX11_seen_53 rfl g13 ?_
        obtain ⟨g14, h⟩ := gd h
        refine go_iald (pc' := 55) dX11_seen_54 rfl g14 ?_
        refine go_iload (pc' := 57) dX11_seen_55 rfl rfl ?_
        refine go_ishr (pc' := 58) dX11_seen_57 rfl ?_
        refine go_iconst (pc' := 59) dX11_seen_58 rfl (r32_c rfl) ?_
        refine go_iand (pc' := 60) dX11_seen_59 rfl ?_
        refine go_iconst (pc' := 61) dX11_seen_60 rfl (r32_c rfl) ?_
        refine go_icmp_ne (t := 68) (pc' := 64) dX11_seen_61 rfl rfl (fun c15 => ?_) (fun c15 => ?_)
        · rw [if_pos (show (iand (ishr (σ 134 ((12 * x1) + x2)) y5) 1) ≠ 1 from c15)] at h
          refine go_iconst (pc' := 69) dX11_seen_68 rfl (r32_c rfl) ?_
          refine go_goto (t := 83) dX11_seen_69 rfl ?_
          cases h
          exact k10J
        · rw [if_neg (show ¬ ((iand (ishr (σ 134 ((12 * x1) + x2)) y5) 1) ≠ 1) from c15)] at h
          refine go_iconst (pc' := 65) dX11_seen_64 rfl (r32_c rfl) ?_
          refine go_goto (t := 83) dX11_seen_65 rfl ?_
          cases h
          exact k10J

set_option maxRecDepth 10000 in
theorem l_M_seen (d : Nat) (n e : Nat) (σ : Hp) (x1 : Int) (x2 : Int) (r : Int) (h : f_M_seen σ x1 x2 = some r) : Ev (d + 3) 186 [pvR 11 0 129, pvI x1, pvI x2] (true, n, e, σ) (0, some (pvI r), true, n, e, σ) := by
  unfold f_M_seen at h
  refine Ev.of mtE186 rfl rfl rfl rfl ?_
  show Go none (Ev (d + 2)) mt186 0 [some (pvR 11 0 129), some (pvI x1), some (pvI x2), none, none, none, none] [] (true, n, e, σ) (0, some (pvI r), true, n, e, σ)
  refine go_aload_n (pc' := 1) dX11_seen_0 rfl rfl (Nat.le_of_ble_eq_true rfl) ?_
  refine go_getR (k' := 12) (L0 := 36) (P' := 131) (pc' := 4) dX11_seen_1 rfl rf_11_15 rfl rfl (by omega) ?_
  refine go_bipush (pc' := 6) dX11_seen_4 rfl (r32_c rfl) (by decide) ?_
  refine go_iload_n (pc' := 7) dX11_seen_6 rfl rfl ?_
  obtain ⟨g1, h⟩ := gd h
  refine go_imul (pc' := 8) dX11_seen_7 rfl g1 ?_
  refine go_iload_n (pc' := 9) dX11_seen_8 rfl rfl ?_
  obtain ⟨g2, h⟩ := gd h
  refine go_iadd (pc' := 10) dX11_seen_9 rfl g2 ?_
  obtain ⟨g3, h⟩ := gd h
  refine go_iald (pc' := 11) dX11_seen_10 rfl g3 ?_
  refine go_iconst (pc' := 12) dX11_seen_11 rfl (r32_c rfl) ?_
  refine go_icmp_ne (t := 17) (pc' := 15) dX11_seen_12 rfl rfl (fun c41 => ?_) (fun c41 => ?_)
  · rw [if_pos (show (σ 131 ((12 * x1) + x2)) ≠ 2 from c41)] at h
    refine go_iconst (pc' := 18) dX11_seen_17 rfl (r32_c rfl) ?_
    refine go_istore_n (L' := [some (pvR 11 0 129), some (pvI x1), some (pvI x2), some (pvI 1), none, none, none]) (pc' := 19) dX11_seen_18 rfl (Nat.le_of_ble_eq_true rfl) rfl ?_
    refine go_iconst (pc' := 20) dX11_seen_19 rfl (r32_c rfl) ?_
    refine go_istore (L' := [some (pvR 11 0 129), some (pvI x1), some (pvI x2), some (pvI 1), some (pvI 0), none, none]) (pc' := 22) dX11_seen_20 rfl (Nat.le_of_ble_eq_true rfl) rfl ?_
    obtain ⟨j37, k38, h⟩ := bd h
    refine l_M_seen_22 d n e σ x1 x2 zFuel 1 0 _ k38 ?_
    refine go_iload_n (pc' := 145) dX11_seen_144 rfl rfl ?_
    obtain ⟨g39, h⟩ := gd h
    cases h
    exact go_zret dX11_seen_145 rfl g39 rfl
  · rw [if_neg (show ¬ ((σ 131 ((12 * x1) + x2)) ≠ 2) from c41)] at h
    refine go_iconst (pc' := 16) dX11_seen_15 rfl (r32_c rfl) ?_
    obtain ⟨g40, h⟩ := gd h
    cases h
    exact go_zret dX11_seen_16 rfl g40 rfl

set_option maxRecDepth 10000 in
theorem l_M_memberAt (d : Nat) (n e : Nat) (σ : Hp) (x1 : Int) (x2 : Int) (x3 : Int) (r : Int × Hp) (h : f_M_memberAt σ x1 x2 x3 = some r) : Ev (d + 4) 184 [pvR 11 0 129, pvI x1, pvI x2, pvI x3] (true, n, e, σ) (0, some (pvI r.1), true, n, e, r.2) := by
  unfold f_M_memberAt at h
  refine Ev.of mtE184 rfl rfl rfl rfl ?_
  show Go none (Ev (d + 3)) mt184 0 [some (pvR 11 0 129), some (pvI x1), some (pvI x2), some (pvI x3), none] [] (true, n, e, σ) (0, some (pvI r.1), true, n, e, r.2)
  refine go_aload_n (pc' := 1) dX11_memberAt_0 rfl rfl (Nat.le_of_ble_eq_true rfl) ?_
  refine go_aload_n (pc' := 2) dX11_memberAt_1 rfl rfl (Nat.le_of_ble_eq_true rfl) ?_
  refine go_iload_n (pc' := 3) dX11_memberAt_2 rfl rfl ?_
  refine go_iload_n (pc' := 4) dX11_memberAt_3 rfl rfl ?_
  obtain ⟨v1, k2, h⟩ := bd h
  have k2 := l_M_is (d + 0) n e σ x1 x2 _ k2
  refine go_call (kc := 170) (Mc := mt170) (v := some (pvI v1)) (w' := (true, n, e, σ)) (pc' := 7) (st' := [pvI v1, pvR 11 0 129]) [pvR 11 0 129, pvI x1, pvI x2] [pvR 11 0 129] (Or.inl rfl) dX11_memberAt_4 rfl rm_11_156 mtE170 rfl rfl rfl (Nat.le_of_ble_eq_true rfl) (Or.inr ⟨_, _, 129, rfl, Or.inl rfl⟩) k2 rfl ?_
  obtain ⟨j3, k4, h⟩ := bd h
  have k4J : Go none (Ev (d + 3)) mt184 32 [some (pvR 11 0 129), some (pvI x1), some (pvI x2), some (pvI x3), none] [pvI j3, pvR 11 0 129] (true, n, e, σ) (0, some (pvI r.1), true, n, e, r.2) := by
    obtain ⟨v8, k9, h⟩ := bd h
    have k9 := l_M_holds (d + 2) n e σ j3 _ k9
    refine go_call (kc := 174) (Mc := mt174) (v := some (pvI v8.1)) (w' := (true, n, e, v8.2)) (pc' := 35) (st' := [pvI v8.1]) [pvR 11 0 129, pvI j3] [] (Or.inl rfl) dX11_memberAt_32 rfl rm_11_185 mtE174 rfl rfl rfl (Nat.le_of_ble_eq_true rfl) (Or.inr ⟨_, _, 129, rfl, Or.inl rfl⟩) k9 rfl ?_
    refine go_if_eq (t := 40) (pc' := 38) dX11_memberAt_35 rfl rfl (fun c40 => ?_) (fun c40 => ?_)
    · rw [if_pos (show v8.1 = 0 from c40)] at h
      refine go_aload_n (pc' := 41) dX11_memberAt_40 rfl rfl (Nat.le_of_ble_eq_true rfl) ?_
      refine go_iload_n (pc' := 42) dX11_memberAt_41 rfl rfl ?_
      refine go_iload_n (pc' := 43) dX11_memberAt_42 rfl rfl ?_
      obtain ⟨v10, k11, h⟩ := bd h
      have k11 := l_M_isPlain (d + 2) n e v8.2 x1 x2 _ k11
      refine go_call (kc := 173) (Mc := mt173) (v := some (pvI v10)) (w' := (true, n, e, v8.2)) (pc' := 46) (st' := [pvI v10]) [pvR 11 0 129, pvI x1, pvI x2] [] (Or.inl rfl) dX11_memberAt_43 rfl rm_11_180 mtE173 rfl rfl rfl (Nat.le_of_ble_eq_true rfl) (Or.inr ⟨_, _, 129, rfl, Or.inl rfl⟩) k11 rfl ?_
      refine go_istore (L' := [some (pvR 11 0 129), some (pvI x1), some (pvI x2), some (pvI x3), some (pvI v10)]) (pc' := 48) dX11_memberAt_46 rfl (Nat.le_of_ble_eq_true rfl) rfl ?_
      refine go_iload_n (pc' := 49) dX11_memberAt_48 rfl rfl ?_
      by_cases c15 : x3 = 0
      · rw [if_pos c15] at h
        refine go_table (t := 80) dX11_memberAt_49 (Or.inr ⟨by omega, by omega, by rw [c15]; rfl⟩) rfl ?_
        refine go_aload_n (pc' := 81) dX11_memberAt_80 rfl rfl (Nat.le_of_ble_eq_true rfl) ?_
        refine go_getR (k' := 12) (L0 := 36) (P' := 131) (pc' := 84) dX11_memberAt_81 rfl rf_11_15 rfl rfl (by omega) ?_
        refine go_bipush (pc' := 86) dX11_memberAt_84 rfl (r32_c rfl) (by decide) ?_
        refine go_iload_n (pc' := 87) dX11_memberAt_86 rfl rfl ?_
        obtain ⟨g12, h⟩ := gd h
        refine go_imul (pc' := 88) dX11_memberAt_87 rfl g12 ?_
        refine go_iload_n (pc' := 89) dX11_memberAt_88 rfl rfl ?_
        obtain ⟨g13, h⟩ := gd h
        refine go_iadd (pc' := 90) dX11_memberAt_89 rfl g13 ?_
        obtain ⟨g14, h⟩ := gd h
        refine go_iald (pc' := 91) dX11_memberAt_90 rfl g14 ?_
        cases h
        exact go_iret dX11_memberAt_91 rfl rfl
      · rw [if_neg c15] at h
        by_cases c22 : x3 = 1
        · rw [if_pos c22] at h
          refine go_table (t := 92) dX11_memberAt_49 (Or.inr ⟨by omega, by omega, by rw [c22]; rfl⟩) rfl ?_
          refine go_iload (pc' := 94) dX11_memberAt_92 rfl rfl ?_
          obtain ⟨j16, k17, h⟩ := bd h
          have k17J : Go none (Ev (d + 3)) mt184 111 [some (pvR 11 0 129), some (pvI x1), some (pvI x2), some (pvI x3), some (pvI v10)] [pvI j16] (true, n, e, v8.2) (0, some (pvI r.1), true, n, e, r.2) := by
            cases h
            exact go_iret dX11_memberAt_111 rfl rfl
          clear h
          have h := k17
          refine go_if_eq (t := 110) (pc' := 97) dX11_memberAt_94 rfl rfl (fun c21 => ?_) (fun c21 => ?_)
          · rw [if_pos (show v10 = 0 from c21)] at h
            refine go_iconst (pc' := 111) dX11_memberAt_110 rfl (r32_c rfl) ?_
            cases h
            exact k17J
          · rw [if_neg (show ¬ (v10 = 0) from c21)] at h
            refine go_iload_n (pc' := 98) dX11_memberAt_97 rfl rfl ?_
            refine go_if_le (t := 110) (pc' := 101) dX11_memberAt_98 rfl rfl (fun c20 => ?_) (fun c20 => ?_)
            · rw [if_pos (show x2 ≤ 0 from c20)] at h
              refine go_iconst (pc' := 111) dX11_memberAt_110 rfl (r32_c rfl) ?_
              cases h
              exact k17J
            · rw [if_neg (show ¬ (x2 ≤ 0) from c20)] at h
              refine go_aload_n (pc' := 102) dX11_memberAt_101 rfl rfl (Nat.le_of_ble_eq_true rfl) ?_
              refine go_iload_n (pc' := 103) dX11_memberAt_102 rfl rfl ?_
              refine go_iload_n (pc' := 104) dX11_memberAt_103 rfl rfl ?_
              obtain ⟨v18, k19, h⟩ := bd h
              have k19 := l_M_now (d + 1) n e v8.2 x1 x2 _ k19
              refine go_call (kc := 181) (Mc := mt181) (v := some (pvI v18)) (w' := (true, n, e, v8.2)) (pc' := 107) (st' := [pvI v18]) [pvR 11 0 129, pvI x1, pvI x2] [] (Or.inl rfl) dX11_memberAt_104 rfl rm_11_173 mtE181 rfl rfl rfl (Nat.le_of_ble_eq_true rfl) (Or.inr ⟨_, _, 129, rfl, Or.inl rfl⟩) k19 rfl ?_
              refine go_goto (t := 111) dX11_memberAt_107 rfl ?_
              cases h
              exact k17J
        · rw [if_neg c22] at h
          by_cases c28 : x3 = 2
          · rw [if_pos c28] at h
            refine go_table (t := 112) dX11_memberAt_49 (Or.inr ⟨by omega, by omega, by rw [c28]; rfl⟩) rfl ?_
            refine go_iload (pc' := 114) dX11_memberAt_112 rfl rfl ?_
            obtain ⟨j23, k24, h⟩ := bd h
            have k24J : Go none (Ev (d + 3)) mt184 127 [some (pvR 11 0 129), some (pvI x1), some (pvI x2), some (pvI x3), some (pvI v10)] [pvI j23] (true, n, e, v8.2) (0, some (pvI r.1), true, n, e, r.2) := by
              cases h
              exact go_iret dX11_memberAt_127 rfl rfl
            clear h
            have h := k24
            refine go_if_eq (t := 126) (pc' := 117) dX11_memberAt_114 rfl rfl (fun c27 => ?_) (fun c27 => ?_)
            · rw [if_pos (show v10 = 0 from c27)] at h
              refine go_iconst (pc' := 127) dX11_memberAt_126 rfl (r32_c rfl) ?_
              cases h
              exact k24J
            · rw [if_neg (show ¬ (v10 = 0) from c27)] at h
              refine go_aload_n (pc' := 118) dX11_memberAt_117 rfl rfl (Nat.le_of_ble_eq_true rfl) ?_
              refine go_iload_n (pc' := 119) dX11_memberAt_118 rfl rfl ?_
              refine go_iload_n (pc' := 120) dX11_memberAt_119 rfl rfl ?_
              obtain ⟨v25, k26, h⟩ := bd h
              have k26 := l_M_depth (d + 0) n e v8.2 x1 x2 _ k26
              refine go_call (kc := 185) (Mc := mt185) (v := some (pvI v25)) (w' := (true, n, e, v8.2)) (pc' := 123) (st' := [pvI v25]) [pvR 11 0 129, pvI x1, pvI x2] [] (Or.inl rfl) dX11_memberAt_120 rfl rm_11_205 mtE185 rfl rfl rfl (Nat.le_of_ble_eq_true rfl) (Or.inr ⟨_, _, 129, rfl, Or.inl rfl⟩) k26 rfl ?_
              refine go_goto (t := 127) dX11_memberAt_123 rfl ?_
              cases h
              exact k24J
          · rw [if_neg c28] at h
            by_cases c34 : x3 = 3
            · rw [if_pos c34] at h
              refine go_table (t := 128) dX11_memberAt_49 (Or.inr ⟨by omega, by omega, by rw [c34]; rfl⟩) rfl ?_
              refine go_iload (pc' := 130) dX11_memberAt_128 rfl rfl ?_
              obtain ⟨j29, k30, h⟩ := bd h
              have k30J : Go none (Ev (d + 3)) mt184 147 [some (pvR 11 0 129), some (pvI x1), some (pvI x2), some (pvI x3), some (pvI v10)] [pvI j29] (true, n, e, v8.2) (0, some (pvI r.1), true, n, e, r.2) := by
                cases h
                exact go_iret dX11_memberAt_147 rfl rfl
              clear h
              have h := k30
              refine go_if_eq (t := 146) (pc' := 133) dX11_memberAt_130 rfl rfl (fun c33 => ?_) (fun c33 => ?_)
              · rw [if_pos (show v10 = 0 from c33)] at h
                refine go_iconst (pc' := 147) dX11_memberAt_146 rfl (r32_c rfl) ?_
                cases h
                exact k30J
              · rw [if_neg (show ¬ (v10 = 0) from c33)] at h
                refine go_iload_n (pc' := 134) dX11_memberAt_133 rfl rfl ?_
                refine go_if_ne (t := 146) (pc' := 137) dX11_memberAt_134 rfl rfl (fun c32 => ?_) (fun c32 => ?_)
                · rw [if_pos (show x1 ≠ 0 from c32)] at h
                  refine go_iconst (pc' := 147) dX11_memberAt_146 rfl (r32_c rfl) ?_
                  cases h
                  exact k30J
                · rw [if_neg (show ¬ (x1 ≠ 0) from c32)] at h
                  refine go_aload_n (pc' := 138) dX11_memberAt_137 rfl rfl (Nat.le_of_ble_eq_true rfl) ?_
                  refine go_getR (k' := 12) (L0 := 12) (P' := 145) (pc' := 141) dX11_memberAt_138 rfl rf_11_57 rfl rfl (by omega) ?_
                  refine go_iload_n (pc' := 142) dX11_memberAt_141 rfl rfl ?_
                  obtain ⟨g31, h⟩ := gd h
                  refine go_iald (pc' := 143) dX11_memberAt_142 rfl g31 ?_
                  refine go_goto (t := 147) dX11_memberAt_143 rfl ?_
                  cases h
                  exact k30J
            · rw [if_neg c34] at h
              refine go_table (t := 148) dX11_memberAt_49 (Or.inl ⟨by omega, rfl⟩) rfl ?_
              refine go_aload_n (pc' := 149) dX11_memberAt_148 rfl rfl (Nat.le_of_ble_eq_true rfl) ?_
              refine go_iload_n (pc' := 150) dX11_memberAt_149 rfl rfl ?_
              refine go_iload_n (pc' := 151) dX11_memberAt_150 rfl rfl ?_
              obtain ⟨v35, k36, h⟩ := bd h
              have k36 := l_M_seen (d + 0) n e v8.2 x1 x2 _ k36
              refine go_call (kc := 186) (Mc := mt186) (v := some (pvI v35)) (w' := (true, n, e, v8.2)) (pc' := 154) (st' := [pvI v35]) [pvR 11 0 129, pvI x1, pvI x2] [] (Or.inl rfl) dX11_memberAt_151 rfl rm_11_208 mtE186 rfl rfl rfl (Nat.le_of_ble_eq_true rfl) (Or.inr ⟨_, _, 129, rfl, Or.inl rfl⟩) k36 rfl ?_
              obtain ⟨j37, k38, h⟩ := bd h
              have k38J : Go none (Ev (d + 3)) mt184 162 [some (pvR 11 0 129), some (pvI x1), some (pvI x2), some (pvI x3), some (pvI v10)] [pvI j37] (true, n, e, v8.2) (0, some (pvI r.1), true, n, e, r.2) := by
                cases h
                exact go_iret dX11_memberAt_162 rfl rfl
              clear h
              have h := k38
              refine go_if_eq (t := 161) (pc' := 157) dX11_memberAt_154 rfl rfl (fun c39 => ?_) (fun c39 => ?_)
              · rw [if_pos (show v35 = 0 from c39)] at h
                refine go_iconst (pc' := 162) dX11_memberAt_161 rfl (r32_c rfl) ?_
                cases h
                exact k38J
              · rw [if_neg (show ¬ (v35 = 0) from c39)] at h
                refine go_iconst (pc' := 158) dX11_memberAt_157 rfl (r32_c rfl) ?_
                refine go_goto (t := 162) dX11_memberAt_158 rfl ?_
                cases h
                exact k38J
    · rw [if_neg (show ¬ (v8.1 = 0) from c40)] at h
      refine go_iconst (pc' := 39) dX11_memberAt_38 rfl (r32_c rfl) ?_
      cases h
      exact go_iret dX11_memberAt_39 rfl rfl
  clear h
  have h := k4
  refine go_if_ne (t := 14) (pc' := 10) dX11_memberAt_7 rfl rfl (fun c41 => ?_) (fun c41 => ?_)
  · rw [if_pos (show v1 ≠ 0 from c41)] at h
    refine go_aload_n (pc' := 15) dX11_memberAt_14 rfl rfl (Nat.le_of_ble_eq_true rfl) ?_
    refine go_iload_n (pc' := 16) dX11_memberAt_15 rfl rfl ?_
    refine go_i2l (pc' := 17) dX11_memberAt_16 rfl ?_
    refine go_lconst (z := 0) (pc' := 18) dX11_memberAt_17 rfl rfl ?_
    refine go_ldc2 (pc' := 21) dX11_memberAt_18 rfl (r64_c rfl) rc_11_203 ?_
    obtain ⟨v5, k6, h⟩ := bd h
    have k6 := l_M_in (d + 2) n e σ x3 0 4 _ k6
    refine go_call (kc := 172) (Mc := mt172) (v := some (pvI v5)) (w' := (true, n, e, σ)) (pc' := 24) (st' := [pvI v5, pvR 11 0 129]) [pvR 11 0 129, pvL x3, pvL 0, pvL 4] [pvR 11 0 129] (Or.inl rfl) dX11_memberAt_21 rfl rm_11_145 mtE172 rfl rfl rfl (Nat.le_of_ble_eq_true rfl) (Or.inr ⟨_, _, 129, rfl, Or.inl rfl⟩) k6 rfl ?_
    refine go_if_eq (t := 31) (pc' := 27) dX11_memberAt_24 rfl rfl (fun c7 => ?_) (fun c7 => ?_)
    · rw [if_pos (show v5 = 0 from c7)] at h
      refine go_iconst (pc' := 32) dX11_memberAt_31 rfl (r32_c rfl) ?_
      cases h
      exact k4J
    · rw [if_neg (show ¬ (v5 = 0) from c7)] at h
      refine go_iconst (pc' := 28) dX11_memberAt_27 rfl (r32_c rfl) ?_
      refine go_goto (t := 32) dX11_memberAt_28 rfl ?_
      cases h
      exact k4J
  · rw [if_neg (show ¬ (v1 ≠ 0) from c41)] at h
    refine go_iconst (pc' := 11) dX11_memberAt_10 rfl (r32_c rfl) ?_
    refine go_goto (t := 32) dX11_memberAt_11 rfl ?_
    cases h
    exact k4J

set_option maxRecDepth 10000 in
theorem l_M_pileOf_4 (d : Nat) (n : Nat) (e : Nat) (σ : Hp) {out : Out} : ∀ (F : Nat) (y1 : Int) (y2 : Int) (j12 : Int × Int), f_M_pileOf_4 σ F y1 y2 = some j12 → Go none (Ev (d + 0)) mt188 43 [some (pvR 11 0 129), some (pvI j12.1), some (pvI j12.2)] [] (true, n, e, σ) out → Go none (Ev (d + 0)) mt188 4 [some (pvR 11 0 129), some (pvI y1), some (pvI y2)] [] (true, n, e, σ) out := by
  intro F
  induction F with
  | zero =>
    intro _ _ _ h
    intro _
    rw [f_M_pileOf_4] at h
    cases h
  | succ F ih =>
    intro y1 y2 j12 h hx
    rw [f_M_pileOf_4] at h
    refine go_iload_n (pc' := 5) dX11_pileOf_4 rfl rfl ?_
    refine go_aload_n (pc' := 6) dX11_pileOf_5 rfl rfl (Nat.le_of_ble_eq_true rfl) ?_
    refine go_getR (k' := 12) (L0 := 37) (P' := 140) (pc' := 9) dX11_pileOf_6 rfl rf_11_42 rfl rfl (by omega) ?_
    refine go_bipush (pc' := 11) dX11_pileOf_9 rfl (r32_c rfl) (by decide) ?_
    obtain ⟨g3, h⟩ := gd h
    refine go_iald (pc' := 12) dX11_pileOf_11 rfl g3 ?_
    refine go_icmp_ge (t := 43) (pc' := 15) dX11_pileOf_12 rfl rfl (fun c11 => ?_) (fun c11 => ?_)
    · rw [if_pos (show (σ 140 36) ≤ y2 from c11)] at h
      cases h
      exact hx
    · rw [if_neg (show ¬ ((σ 140 36) ≤ y2) from c11)] at h
      refine go_iload_n (pc' := 16) dX11_pileOf_15 rfl rfl ?_
      refine go_aload_n (pc' := 17) dX11_pileOf_16 rfl rfl (Nat.le_of_ble_eq_true rfl) ?_
      refine go_getR (k' := 12) (L0 := 370) (P' := 137) (pc' := 20) dX11_pileOf_17 rfl rf_11_33 rfl rfl (by omega) ?_
      refine go_sipush (pc' := 23) dX11_pileOf_20 rfl (r32_c rfl) (by decide) ?_
      refine go_iload_n (pc' := 24) dX11_pileOf_23 rfl rfl ?_
      obtain ⟨g4, h⟩ := gd h
      refine go_iadd (pc' := 25) dX11_pileOf_24 rfl g4 ?_
      obtain ⟨g5, h⟩ := gd h
      refine go_iald (pc' := 26) dX11_pileOf_25 rfl g5 ?_
      refine go_iconst (pc' := 27) dX11_pileOf_26 rfl (r32_c rfl) ?_
      obtain ⟨j6, k7, h⟩ := bd h
      have k7J : Go none (Ev (d + 0)) mt188 35 [some (pvR 11 0 129), some (pvI y1), some (pvI y2)] [pvI j6, pvI y1] (true, n, e, σ) out := by
        obtain ⟨g8, h⟩ := gd h
        refine go_iadd (pc' := 36) dX11_pileOf_35 rfl g8 ?_
        refine go_istore_n (L' := [some (pvR 11 0 129), some (pvI (y1 + j6)), some (pvI y2)]) (pc' := 37) dX11_pileOf_36 rfl (Nat.le_of_ble_eq_true rfl) rfl ?_
        obtain ⟨g9, h⟩ := gd h
        refine go_iinc (L' := [some (pvR 11 0 129), some (pvI (y1 + j6)), some (pvI (y2 + 1))]) (pc' := 40) dX11_pileOf_37 rfl rfl g9 rfl ?_
        refine go_goto (t := 4) dX11_pileOf_40 rfl ?_
        exact ih (y1 + j6) (y2 + 1) _ h hx
      clear h
      have h := k7
      refine go_icmp_ge (t := 34) (pc' := 30) dX11_pileOf_27 rfl rfl (fun c10 => ?_) (fun c10 => ?_)
      · rw [if_pos (show 3 ≤ (σ 137 (360 + y2)) from c10)] at h
        refine go_iconst (pc' := 35) dX11_pileOf_34 rfl (r32_c rfl) ?_
        cases h
        exact k7J
      · rw [if_neg (show ¬ (3 ≤ (σ 137 (360 + y2))) from c10)] at h
        refine go_iconst (pc' := 31) dX11_pileOf_30 rfl (r32_c rfl) ?_
        refine go_goto (t := 35) dX11_pileOf_31 rfl ?_
        cases h
        exact k7J

set_option maxRecDepth 10000 in
theorem l_M_pileOf (d : Nat) (n e : Nat) (σ : Hp) (r : Int) (h : f_M_pileOf σ = some r) : Ev (d + 1) 188 [pvR 11 0 129] (true, n, e, σ) (0, some (pvI r), true, n, e, σ) := by
  unfold f_M_pileOf at h
  refine Ev.of mtE188 rfl rfl rfl rfl ?_
  show Go none (Ev (d + 0)) mt188 0 [some (pvR 11 0 129), none, none] [] (true, n, e, σ) (0, some (pvI r), true, n, e, σ)
  refine go_iconst (pc' := 1) dX11_pileOf_0 rfl (r32_c rfl) ?_
  refine go_istore_n (L' := [some (pvR 11 0 129), some (pvI 0), none]) (pc' := 2) dX11_pileOf_1 rfl (Nat.le_of_ble_eq_true rfl) rfl ?_
  refine go_iconst (pc' := 3) dX11_pileOf_2 rfl (r32_c rfl) ?_
  refine go_istore_n (L' := [some (pvR 11 0 129), some (pvI 0), some (pvI 0)]) (pc' := 4) dX11_pileOf_3 rfl (Nat.le_of_ble_eq_true rfl) rfl ?_
  obtain ⟨j13, k14, h⟩ := bd h
  refine l_M_pileOf_4 d n e σ zFuel 0 0 _ k14 ?_
  refine go_iload_n (pc' := 44) dX11_pileOf_43 rfl rfl ?_
  cases h
  exact go_iret dX11_pileOf_44 rfl rfl

set_option maxRecDepth 10000 in
theorem l_M_word (d : Nat) (n e : Nat) (σ : Hp) (x1 : Int) (x2 : Int) (x3 : Int) (r : Int × Hp) (h : f_M_word σ x1 x2 x3 = some r) : Ev (d + 2) 187 [pvR 11 0 129, pvI x1, pvI x2, pvI x3] (true, n, e, σ) (0, some (pvI r.1), true, n, e, r.2) := by
  unfold f_M_word at h
  refine Ev.of mtE187 rfl rfl rfl rfl ?_
  show Go none (Ev (d + 1)) mt187 0 [some (pvR 11 0 129), some (pvI x1), some (pvI x2), some (pvI x3), none] [] (true, n, e, σ) (0, some (pvI r.1), true, n, e, r.2)
  refine go_aload_n (pc' := 1) dX11_word_0 rfl rfl (Nat.le_of_ble_eq_true rfl) ?_
  refine go_iload_n (pc' := 2) dX11_word_1 rfl rfl ?_
  refine go_i2l (pc' := 3) dX11_word_2 rfl ?_
  refine go_lconst (z := 0) (pc' := 4) dX11_word_3 rfl rfl ?_
  refine go_ldc2 (pc' := 7) dX11_word_4 rfl (r64_c rfl) rc_11_211 ?_
  obtain ⟨v1, k2, h⟩ := bd h
  have k2 := l_M_in (d + 0) n e σ x1 0 6 _ k2
  refine go_call (kc := 172) (Mc := mt172) (v := some (pvI v1)) (w' := (true, n, e, σ)) (pc' := 10) (st' := [pvI v1]) [pvR 11 0 129, pvL x1, pvL 0, pvL 6] [] (Or.inl rfl) dX11_word_7 rfl rm_11_145 mtE172 rfl rfl rfl (Nat.le_of_ble_eq_true rfl) (Or.inr ⟨_, _, 129, rfl, Or.inl rfl⟩) k2 rfl ?_
  obtain ⟨j3, k4, h⟩ := bd h
  have k4J : Go none (Ev (d + 1)) mt187 78 [some (pvR 11 0 129), some (pvI x1), some (pvI x2), some (pvI x3), none] [pvI j3] (true, n, e, σ) (0, some (pvI r.1), true, n, e, r.2) := by
    refine go_istore (L' := [some (pvR 11 0 129), some (pvI x1), some (pvI x2), some (pvI x3), some (pvI j3)]) (pc' := 80) dX11_word_78 rfl (Nat.le_of_ble_eq_true rfl) rfl ?_
    refine go_aload_n (pc' := 81) dX11_word_80 rfl rfl (Nat.le_of_ble_eq_true rfl) ?_
    refine go_iload (pc' := 83) dX11_word_81 rfl rfl ?_
    obtain ⟨j49, k50, h⟩ := bd h
    have k50J : Go none (Ev (d + 1)) mt187 120 [some (pvR 11 0 129), some (pvI x1), some (pvI x2), some (pvI x3), some (pvI j3)] [pvI j49, pvR 11 0 129] (true, n, e, σ) (0, some (pvI r.1), true, n, e, r.2) := by
      obtain ⟨v57, k58, h⟩ := bd h
      have k58 := l_M_holds (d + 0) n e σ j49 _ k58
      refine go_call (kc := 174) (Mc := mt174) (v := some (pvI v57.1)) (w' := (true, n, e, v57.2)) (pc' := 123) (st' := [pvI v57.1]) [pvR 11 0 129, pvI j49] [] (Or.inl rfl) dX11_word_120 rfl rm_11_185 mtE174 rfl rfl rfl (Nat.le_of_ble_eq_true rfl) (Or.inr ⟨_, _, 129, rfl, Or.inl rfl⟩) k58 rfl ?_
      refine go_if_eq (t := 128) (pc' := 126) dX11_word_123 rfl rfl (fun c72 => ?_) (fun c72 => ?_)
      · rw [if_pos (show v57.1 = 0 from c72)] at h
        refine go_aload_n (pc' := 129) dX11_word_128 rfl rfl (Nat.le_of_ble_eq_true rfl) ?_
        refine go_getR (k' := 12) (L0 := 370) (P' := 137) (pc' := 132) dX11_word_129 rfl rf_11_33 rfl rfl (by omega) ?_
        refine go_sipush (pc' := 135) dX11_word_132 rfl (r32_c rfl) (by decide) ?_
        refine go_aload_n (pc' := 136) dX11_word_135 rfl rfl (Nat.le_of_ble_eq_true rfl) ?_
        refine go_getR (k' := 12) (L0 := 37) (P' := 140) (pc' := 139) dX11_word_136 rfl rf_11_42 rfl rfl (by omega) ?_
        refine go_bipush (pc' := 141) dX11_word_139 rfl (r32_c rfl) (by decide) ?_
        obtain ⟨g59, h⟩ := gd h
        refine go_iald (pc' := 142) dX11_word_141 rfl g59 ?_
        obtain ⟨g60, h⟩ := gd h
        refine go_iadd (pc' := 143) dX11_word_142 rfl g60 ?_
        refine go_iload_n (pc' := 144) dX11_word_143 rfl rfl ?_
        obtain ⟨g61, h⟩ := gd h
        refine go_iast (pc' := 145) dX11_word_144 rfl g61 ?_
        refine go_aload_n (pc' := 146) dX11_word_145 rfl rfl (Nat.le_of_ble_eq_true rfl) ?_
        refine go_getR (k' := 12) (L0 := 370) (P' := 138) (pc' := 149) dX11_word_146 rfl rf_11_36 rfl rfl (by omega) ?_
        refine go_sipush (pc' := 152) dX11_word_149 rfl (r32_c rfl) (by decide) ?_
        refine go_aload_n (pc' := 153) dX11_word_152 rfl rfl (Nat.le_of_ble_eq_true rfl) ?_
        refine go_getR (k' := 12) (L0 := 37) (P' := 140) (pc' := 156) dX11_word_153 rfl rf_11_42 rfl rfl (by omega) ?_
        refine go_bipush (pc' := 158) dX11_word_156 rfl (r32_c rfl) (by decide) ?_
        obtain ⟨g62, h⟩ := gd h
        refine go_iald (pc' := 159) dX11_word_158 rfl g62 ?_
        obtain ⟨g63, h⟩ := gd h
        refine go_iadd (pc' := 160) dX11_word_159 rfl g63 ?_
        refine go_iload_n (pc' := 161) dX11_word_160 rfl rfl ?_
        obtain ⟨g64, h⟩ := gd h
        refine go_iast (pc' := 162) dX11_word_161 rfl g64 ?_
        refine go_aload_n (pc' := 163) dX11_word_162 rfl rfl (Nat.le_of_ble_eq_true rfl) ?_
        refine go_getR (k' := 12) (L0 := 370) (P' := 139) (pc' := 166) dX11_word_163 rfl rf_11_39 rfl rfl (by omega) ?_
        refine go_sipush (pc' := 169) dX11_word_166 rfl (r32_c rfl) (by decide) ?_
        refine go_aload_n (pc' := 170) dX11_word_169 rfl rfl (Nat.le_of_ble_eq_true rfl) ?_
        refine go_getR (k' := 12) (L0 := 37) (P' := 140) (pc' := 173) dX11_word_170 rfl rf_11_42 rfl rfl (by omega) ?_
        refine go_bipush (pc' := 175) dX11_word_173 rfl (r32_c rfl) (by decide) ?_
        obtain ⟨g65, h⟩ := gd h
        refine go_iald (pc' := 176) dX11_word_175 rfl g65 ?_
        obtain ⟨g66, h⟩ := gd h
        refine go_iadd (pc' := 177) dX11_word_176 rfl g66 ?_
        refine go_iload_n (pc' := 178) dX11_word_177 rfl rfl ?_
        obtain ⟨g67, h⟩ := gd h
        refine go_iast (pc' := 179) dX11_word_178 rfl g67 ?_
        refine go_aload_n (pc' := 180) dX11_word_179 rfl rfl (Nat.le_of_ble_eq_true rfl) ?_
        refine go_getR (k' := 12) (L0 := 37) (P' := 140) (pc' := 183) dX11_word_180 rfl rf_11_42 rfl rfl (by omega) ?_
        refine go_bipush (pc' := 185) dX11_word_183 rfl (r32_c rfl) (by decide) ?_
        refine go_dup2 (pc' := 186) dX11_word_185 rfl (Nat.ne_of_beq_eq_false rfl) (Nat.ne_of_beq_eq_false rfl) ?_
        obtain ⟨g68, h⟩ := gd h
        refine go_iald (pc' := 187) dX11_word_186 rfl g68 ?_
        refine go_iconst (pc' := 188) dX11_word_187 rfl (r32_c rfl) ?_
        obtain ⟨g69, h⟩ := gd h
        refine go_iadd (pc' := 189) dX11_word_188 rfl g69 ?_
        obtain ⟨g70, h⟩ := gd h
        refine go_iast (pc' := 190) dX11_word_189 rfl g70 ?_
        refine go_aload_n (pc' := 191) dX11_word_190 rfl rfl (Nat.le_of_ble_eq_true rfl) ?_
        refine go_getR (k' := 12) (L0 := 37) (P' := 140) (pc' := 194) dX11_word_191 rfl rf_11_42 rfl rfl (by omega) ?_
        refine go_bipush (pc' := 196) dX11_word_194 rfl (r32_c rfl) (by decide) ?_
        obtain ⟨g71, h⟩ := gd h
        refine go_iald (pc' := 197) dX11_word_196 rfl g71 ?_
        cases h
        exact go_iret dX11_word_197 rfl rfl
      · rw [if_neg (show ¬ (v57.1 = 0) from c72)] at h
        refine go_iconst (pc' := 127) dX11_word_126 rfl (r32_c rfl) ?_
        cases h
        exact go_iret dX11_word_127 rfl rfl
    clear h
    have h := k50
    refine go_if_ne (t := 90) (pc' := 86) dX11_word_83 rfl rfl (fun c73 => ?_) (fun c73 => ?_)
    · rw [if_pos (show j3 ≠ 0 from c73)] at h
      refine go_aload_n (pc' := 91) dX11_word_90 rfl rfl (Nat.le_of_ble_eq_true rfl) ?_
      refine go_getR (k' := 12) (L0 := 37) (P' := 140) (pc' := 94) dX11_word_91 rfl rf_11_42 rfl rfl (by omega) ?_
      refine go_bipush (pc' := 96) dX11_word_94 rfl (r32_c rfl) (by decide) ?_
      obtain ⟨g51, h⟩ := gd h
      refine go_iald (pc' := 97) dX11_word_96 rfl g51 ?_
      refine go_bipush (pc' := 99) dX11_word_97 rfl (r32_c rfl) (by decide) ?_
      refine go_icmp_eq (t := 115) (pc' := 102) dX11_word_99 rfl rfl (fun c56 => ?_) (fun c56 => ?_)
      · rw [if_pos (show (σ 140 36) = 10 from c56)] at h
        refine go_iconst (pc' := 116) dX11_word_115 rfl (r32_c rfl) ?_
        refine go_goto (t := 120) dX11_word_116 rfl ?_
        cases h
        exact k50J
      · rw [if_neg (show ¬ ((σ 140 36) = 10) from c56)] at h
        refine go_iload_n (pc' := 103) dX11_word_102 rfl rfl ?_
        refine go_iconst (pc' := 104) dX11_word_103 rfl (r32_c rfl) ?_
        refine go_icmp_le (t := 119) (pc' := 107) dX11_word_104 rfl rfl (fun c55 => ?_) (fun c55 => ?_)
        · rw [if_pos (show x1 ≤ 2 from c55)] at h
          refine go_iconst (pc' := 120) dX11_word_119 rfl (r32_c rfl) ?_
          cases h
          exact k50J
        · rw [if_neg (show ¬ (x1 ≤ 2) from c55)] at h
          refine go_aload_n (pc' := 108) dX11_word_107 rfl rfl (Nat.le_of_ble_eq_true rfl) ?_
          obtain ⟨v52, k53, h⟩ := bd h
          have k53 := l_M_pileOf (d + 0) n e σ _ k53
          refine go_call (kc := 188) (Mc := mt188) (v := some (pvI v52)) (w' := (true, n, e, σ)) (pc' := 111) (st' := [pvI v52, pvR 11 0 129]) [pvR 11 0 129] [pvR 11 0 129] (Or.inl rfl) dX11_word_108 rfl rm_11_219 mtE188 rfl rfl rfl (Nat.le_of_ble_eq_true rfl) (Or.inr ⟨_, _, 129, rfl, Or.inl rfl⟩) k53 rfl ?_
          refine go_iconst (pc' := 112) dX11_word_111 rfl (r32_c rfl) ?_
          refine go_icmp_ge (t := 119) (pc' := 115) dX11_word_112 rfl rfl (fun c54 => ?_) (fun c54 => ?_)
          · rw [if_pos (show 2 ≤ v52 from c54)] at h
            refine go_iconst (pc' := 120) dX11_word_119 rfl (r32_c rfl) ?_
            cases h
            exact k50J
          · rw [if_neg (show ¬ (2 ≤ v52) from c54)] at h
            refine go_iconst (pc' := 116) dX11_word_115 rfl (r32_c rfl) ?_
            refine go_goto (t := 120) dX11_word_116 rfl ?_
            cases h
            exact k50J
    · rw [if_neg (show ¬ (j3 ≠ 0) from c73)] at h
      refine go_iconst (pc' := 87) dX11_word_86 rfl (r32_c rfl) ?_
      refine go_goto (t := 120) dX11_word_87 rfl ?_
      cases h
      exact k50J
  clear h
  have h := k4
  refine go_if_eq (t := 77) (pc' := 13) dX11_word_10 rfl rfl (fun c74 => ?_) (fun c74 => ?_)
  · rw [if_pos (show v1 = 0 from c74)] at h
    refine go_iconst (pc' := 78) dX11_word_77 rfl (r32_c rfl) ?_
    cases h
    exact k4J
  · rw [if_neg (show ¬ (v1 = 0) from c74)] at h
    refine go_iload_n (pc' := 14) dX11_word_13 rfl rfl ?_
    refine go_if_ne (t := 32) (pc' := 17) dX11_word_14 rfl rfl (fun c48 => ?_) (fun c48 => ?_)
    · rw [if_pos (show x1 ≠ 0 from c48)] at h
      refine go_iload_n (pc' := 33) dX11_word_32 rfl rfl ?_
      refine go_iconst (pc' := 34) dX11_word_33 rfl (r32_c rfl) ?_
      refine go_icmp_eq (t := 42) (pc' := 37) dX11_word_34 rfl rfl (fun c24 => ?_) (fun c24 => ?_)
      · rw [if_pos (show x1 = 1 from c24)] at h
        refine go_aload_n (pc' := 43) dX11_word_42 rfl rfl (Nat.le_of_ble_eq_true rfl) ?_
        refine go_iload_n (pc' := 44) dX11_word_43 rfl rfl ?_
        refine go_i2l (pc' := 45) dX11_word_44 rfl ?_
        refine go_lconst (z := 0) (pc' := 46) dX11_word_45 rfl rfl ?_
        refine go_ldc2 (pc' := 49) dX11_word_46 rfl (r64_c rfl) rc_11_217 ?_
        obtain ⟨v5, k6, h⟩ := bd h
        have k6 := l_M_in (d + 0) n e σ x2 0 11 _ k6
        refine go_call (kc := 172) (Mc := mt172) (v := some (pvI v5)) (w' := (true, n, e, σ)) (pc' := 52) (st' := [pvI v5]) [pvR 11 0 129, pvL x2, pvL 0, pvL 11] [] (Or.inl rfl) dX11_word_49 rfl rm_11_145 mtE172 rfl rfl rfl (Nat.le_of_ble_eq_true rfl) (Or.inr ⟨_, _, 129, rfl, Or.inl rfl⟩) k6 rfl ?_
        refine go_if_eq (t := 77) (pc' := 55) dX11_word_52 rfl rfl (fun c11 => ?_) (fun c11 => ?_)
        · rw [if_pos (show v5 = 0 from c11)] at h
          refine go_iconst (pc' := 78) dX11_word_77 rfl (r32_c rfl) ?_
          cases h
          exact k4J
        · rw [if_neg (show ¬ (v5 = 0) from c11)] at h
          refine go_iload_n (pc' := 56) dX11_word_55 rfl rfl ?_
          refine go_iconst (pc' := 57) dX11_word_56 rfl (r32_c rfl) ?_
          refine go_icmp_ne (t := 73) (pc' := 60) dX11_word_57 rfl rfl (fun c10 => ?_) (fun c10 => ?_)
          · rw [if_pos (show x1 ≠ 1 from c10)] at h
            refine go_iconst (pc' := 74) dX11_word_73 rfl (r32_c rfl) ?_
            refine go_goto (t := 78) dX11_word_74 rfl ?_
            cases h
            exact k4J
          · rw [if_neg (show ¬ (x1 ≠ 1) from c10)] at h
            refine go_aload_n (pc' := 61) dX11_word_60 rfl rfl (Nat.le_of_ble_eq_true rfl) ?_
            refine go_iload_n (pc' := 62) dX11_word_61 rfl rfl ?_
            refine go_i2l (pc' := 63) dX11_word_62 rfl ?_
            refine go_lconst (z := 0) (pc' := 64) dX11_word_63 rfl rfl ?_
            refine go_ldc2 (pc' := 67) dX11_word_64 rfl (r64_c rfl) rc_11_217 ?_
            obtain ⟨v7, k8, h⟩ := bd h
            have k8 := l_M_in (d + 0) n e σ x3 0 11 _ k8
            refine go_call (kc := 172) (Mc := mt172) (v := some (pvI v7)) (w' := (true, n, e, σ)) (pc' := 70) (st' := [pvI v7]) [pvR 11 0 129, pvL x3, pvL 0, pvL 11] [] (Or.inl rfl) dX11_word_67 rfl rm_11_145 mtE172 rfl rfl rfl (Nat.le_of_ble_eq_true rfl) (Or.inr ⟨_, _, 129, rfl, Or.inl rfl⟩) k8 rfl ?_
            refine go_if_eq (t := 77) (pc' := 73) dX11_word_70 rfl rfl (fun c9 => ?_) (fun c9 => ?_)
            · rw [if_pos (show v7 = 0 from c9)] at h
              refine go_iconst (pc' := 78) dX11_word_77 rfl (r32_c rfl) ?_
              cases h
              exact k4J
            · rw [if_neg (show ¬ (v7 = 0) from c9)] at h
              refine go_iconst (pc' := 74) dX11_word_73 rfl (r32_c rfl) ?_
              refine go_goto (t := 78) dX11_word_74 rfl ?_
              cases h
              exact k4J
      · rw [if_neg (show ¬ (x1 = 1) from c24)] at h
        refine go_iload_n (pc' := 38) dX11_word_37 rfl rfl ?_
        refine go_iconst (pc' := 39) dX11_word_38 rfl (r32_c rfl) ?_
        refine go_icmp_ne (t := 55) (pc' := 42) dX11_word_39 rfl rfl (fun c23 => ?_) (fun c23 => ?_)
        · rw [if_pos (show x1 ≠ 2 from c23)] at h
          refine go_iload_n (pc' := 56) dX11_word_55 rfl rfl ?_
          refine go_iconst (pc' := 57) dX11_word_56 rfl (r32_c rfl) ?_
          refine go_icmp_ne (t := 73) (pc' := 60) dX11_word_57 rfl rfl (fun c15 => ?_) (fun c15 => ?_)
          · rw [if_pos (show x1 ≠ 1 from c15)] at h
            refine go_iconst (pc' := 74) dX11_word_73 rfl (r32_c rfl) ?_
            refine go_goto (t := 78) dX11_word_74 rfl ?_
            cases h
            exact k4J
          · rw [if_neg (show ¬ (x1 ≠ 1) from c15)] at h
            refine go_aload_n (pc' := 61) dX11_word_60 rfl rfl (Nat.le_of_ble_eq_true rfl) ?_
            refine go_iload_n (pc' := 62) dX11_word_61 rfl rfl ?_
            refine go_i2l (pc' := 63) dX11_word_62 rfl ?_
            refine go_lconst (z := 0) (pc' := 64) dX11_word_63 rfl rfl ?_
            refine go_ldc2 (pc' := 67) dX11_word_64 rfl (r64_c rfl) rc_11_217 ?_
            obtain ⟨v12, k13, h⟩ := bd h
            have k13 := l_M_in (d + 0) n e σ x3 0 11 _ k13
            refine go_call (kc := 172) (Mc := mt172) (v := some (pvI v12)) (w' := (true, n, e, σ)) (pc' := 70) (st' := [pvI v12]) [pvR 11 0 129, pvL x3, pvL 0, pvL 11] [] (Or.inl rfl) dX11_word_67 rfl rm_11_145 mtE172 rfl rfl rfl (Nat.le_of_ble_eq_true rfl) (Or.inr ⟨_, _, 129, rfl, Or.inl rfl⟩) k13 rfl ?_
            refine go_if_eq (t := 77) (pc' := 73) dX11_word_70 rfl rfl (fun c14 => ?_) (fun c14 => ?_)
            · rw [if_pos (show v12 = 0 from c14)] at h
              refine go_iconst (pc' := 78) dX11_word_77 rfl (r32_c rfl) ?_
              cases h
              exact k4J
            · rw [if_neg (show ¬ (v12 = 0) from c14)] at h
              refine go_iconst (pc' := 74) dX11_word_73 rfl (r32_c rfl) ?_
              refine go_goto (t := 78) dX11_word_74 rfl ?_
              cases h
              exact k4J
        · rw [if_neg (show ¬ (x1 ≠ 2) from c23)] at h
          refine go_aload_n (pc' := 43) dX11_word_42 rfl rfl (Nat.le_of_ble_eq_true rfl) ?_
          refine go_iload_n (pc' := 44) dX11_word_43 rfl rfl ?_
          refine go_i2l (pc' := 45) dX11_word_44 rfl ?_
          refine go_lconst (z := 0) (pc' := 46) dX11_word_45 rfl rfl ?_
          refine go_ldc2 (pc' := 49) dX11_word_46 rfl (r64_c rfl) rc_11_217 ?_
          obtain ⟨v16, k17, h⟩ := bd h
          have k17 := l_M_in (d + 0) n e σ x2 0 11 _ k17
          refine go_call (kc := 172) (Mc := mt172) (v := some (pvI v16)) (w' := (true, n, e, σ)) (pc' := 52) (st' := [pvI v16]) [pvR 11 0 129, pvL x2, pvL 0, pvL 11] [] (Or.inl rfl) dX11_word_49 rfl rm_11_145 mtE172 rfl rfl rfl (Nat.le_of_ble_eq_true rfl) (Or.inr ⟨_, _, 129, rfl, Or.inl rfl⟩) k17 rfl ?_
          refine go_if_eq (t := 77) (pc' := 55) dX11_word_52 rfl rfl (fun c22 => ?_) (fun c22 => ?_)
          · rw [if_pos (show v16 = 0 from c22)] at h
            refine go_iconst (pc' := 78) dX11_word_77 rfl (r32_c rfl) ?_
            cases h
            exact k4J
          · rw [if_neg (show ¬ (v16 = 0) from c22)] at h
            refine go_iload_n (pc' := 56) dX11_word_55 rfl rfl ?_
            refine go_iconst (pc' := 57) dX11_word_56 rfl (r32_c rfl) ?_
            refine go_icmp_ne (t := 73) (pc' := 60) dX11_word_57 rfl rfl (fun c21 => ?_) (fun c21 => ?_)
            · rw [if_pos (show x1 ≠ 1 from c21)] at h
              refine go_iconst (pc' := 74) dX11_word_73 rfl (r32_c rfl) ?_
              refine go_goto (t := 78) dX11_word_74 rfl ?_
              cases h
              exact k4J
            · rw [if_neg (show ¬ (x1 ≠ 1) from c21)] at h
              refine go_aload_n (pc' := 61) dX11_word_60 rfl rfl (Nat.le_of_ble_eq_true rfl) ?_
              refine go_iload_n (pc' := 62) dX11_word_61 rfl rfl ?_
              refine go_i2l (pc' := 63) dX11_word_62 rfl ?_
              refine go_lconst (z := 0) (pc' := 64) dX11_word_63 rfl rfl ?_
              refine go_ldc2 (pc' := 67) dX11_word_64 rfl (r64_c rfl) rc_11_217 ?_
              obtain ⟨v18, k19, h⟩ := bd h
              have k19 := l_M_in (d + 0) n e σ x3 0 11 _ k19
              refine go_call (kc := 172) (Mc := mt172) (v := some (pvI v18)) (w' := (true, n, e, σ)) (pc' := 70) (st' := [pvI v18]) [pvR 11 0 129, pvL x3, pvL 0, pvL 11] [] (Or.inl rfl) dX11_word_67 rfl rm_11_145 mtE172 rfl rfl rfl (Nat.le_of_ble_eq_true rfl) (Or.inr ⟨_, _, 129, rfl, Or.inl rfl⟩) k19 rfl ?_
              refine go_if_eq (t := 77) (pc' := 73) dX11_word_70 rfl rfl (fun c20 => ?_) (fun c20 => ?_)
              · rw [if_pos (show v18 = 0 from c20)] at h
                refine go_iconst (pc' := 78) dX11_word_77 rfl (r32_c rfl) ?_
                cases h
                exact k4J
              · rw [if_neg (show ¬ (v18 = 0) from c20)] at h
                refine go_iconst (pc' := 74) dX11_word_73 rfl (r32_c rfl) ?_
                refine go_goto (t := 78) dX11_word_74 rfl ?_
                cases h
                exact k4J
    · rw [if_neg (show ¬ (x1 ≠ 0) from c48)] at h
      refine go_aload_n (pc' := 18) dX11_word_17 rfl rfl (Nat.le_of_ble_eq_true rfl) ?_
      refine go_iload_n (pc' := 19) dX11_word_18 rfl rfl ?_
      refine go_i2l (pc' := 20) dX11_word_19 rfl ?_
      refine go_ldc2 (pc' := 23) dX11_word_20 rfl (r64_c rfl) rc_11_213 ?_
      refine go_ldc2 (pc' := 26) dX11_word_23 rfl (r64_c rfl) rc_11_215 ?_
      obtain ⟨v25, k26, h⟩ := bd h
      have k26 := l_M_in (d + 0) n e σ x2 (-1000000) 1000000 _ k26
      refine go_call (kc := 172) (Mc := mt172) (v := some (pvI v25)) (w' := (true, n, e, σ)) (pc' := 29) (st' := [pvI v25]) [pvR 11 0 129, pvL x2, pvL (-1000000), pvL 1000000] [] (Or.inl rfl) dX11_word_26 rfl rm_11_145 mtE172 rfl rfl rfl (Nat.le_of_ble_eq_true rfl) (Or.inr ⟨_, _, 129, rfl, Or.inl rfl⟩) k26 rfl ?_
      refine go_if_eq (t := 77) (pc' := 32) dX11_word_29 rfl rfl (fun c47 => ?_) (fun c47 => ?_)
      · rw [if_pos (show v25 = 0 from c47)] at h
        refine go_iconst (pc' := 78) dX11_word_77 rfl (r32_c rfl) ?_
        cases h
        exact k4J
      · rw [if_neg (show ¬ (v25 = 0) from c47)] at h
        refine go_iload_n (pc' := 33) dX11_word_32 rfl rfl ?_
        refine go_iconst (pc' := 34) dX11_word_33 rfl (r32_c rfl) ?_
        refine go_icmp_eq (t := 42) (pc' := 37) dX11_word_34 rfl rfl (fun c46 => ?_) (fun c46 => ?_)
        · rw [if_pos (show x1 = 1 from c46)] at h
          refine go_aload_n (pc' := 43) dX11_word_42 rfl rfl (Nat.le_of_ble_eq_true rfl) ?_
          refine go_iload_n (pc' := 44) dX11_word_43 rfl rfl ?_
          refine go_i2l (pc' := 45) dX11_word_44 rfl ?_
          refine go_lconst (z := 0) (pc' := 46) dX11_word_45 rfl rfl ?_
          refine go_ldc2 (pc' := 49) dX11_word_46 rfl (r64_c rfl) rc_11_217 ?_
          obtain ⟨v27, k28, h⟩ := bd h
          have k28 := l_M_in (d + 0) n e σ x2 0 11 _ k28
          refine go_call (kc := 172) (Mc := mt172) (v := some (pvI v27)) (w' := (true, n, e, σ)) (pc' := 52) (st' := [pvI v27]) [pvR 11 0 129, pvL x2, pvL 0, pvL 11] [] (Or.inl rfl) dX11_word_49 rfl rm_11_145 mtE172 rfl rfl rfl (Nat.le_of_ble_eq_true rfl) (Or.inr ⟨_, _, 129, rfl, Or.inl rfl⟩) k28 rfl ?_
          refine go_if_eq (t := 77) (pc' := 55) dX11_word_52 rfl rfl (fun c33 => ?_) (fun c33 => ?_)
          · rw [if_pos (show v27 = 0 from c33)] at h
            refine go_iconst (pc' := 78) dX11_word_77 rfl (r32_c rfl) ?_
            cases h
            exact k4J
          · rw [if_neg (show ¬ (v27 = 0) from c33)] at h
            refine go_iload_n (pc' := 56) dX11_word_55 rfl rfl ?_
            refine go_iconst (pc' := 57) dX11_word_56 rfl (r32_c rfl) ?_
            refine go_icmp_ne (t := 73) (pc' := 60) dX11_word_57 rfl rfl (fun c32 => ?_) (fun c32 => ?_)
            · rw [if_pos (show x1 ≠ 1 from c32)] at h
              refine go_iconst (pc' := 74) dX11_word_73 rfl (r32_c rfl) ?_
              refine go_goto (t := 78) dX11_word_74 rfl ?_
              cases h
              exact k4J
            · rw [if_neg (show ¬ (x1 ≠ 1) from c32)] at h
              refine go_aload_n (pc' := 61) dX11_word_60 rfl rfl (Nat.le_of_ble_eq_true rfl) ?_
              refine go_iload_n (pc' := 62) dX11_word_61 rfl rfl ?_
              refine go_i2l (pc' := 63) dX11_word_62 rfl ?_
              refine go_lconst (z := 0) (pc' := 64) dX11_word_63 rfl rfl ?_
              refine go_ldc2 (pc' := 67) dX11_word_64 rfl (r64_c rfl) rc_11_217 ?_
              obtain ⟨v29, k30, h⟩ := bd h
              have k30 := l_M_in (d + 0) n e σ x3 0 11 _ k30
              refine go_call (kc := 172) (Mc := mt172) (v := some (pvI v29)) (w' := (true, n, e, σ)) (pc' := 70) (st' := [pvI v29]) [pvR 11 0 129, pvL x3, pvL 0, pvL 11] [] (Or.inl rfl) dX11_word_67 rfl rm_11_145 mtE172 rfl rfl rfl (Nat.le_of_ble_eq_true rfl) (Or.inr ⟨_, _, 129, rfl, Or.inl rfl⟩) k30 rfl ?_
              refine go_if_eq (t := 77) (pc' := 73) dX11_word_70 rfl rfl (fun c31 => ?_) (fun c31 => ?_)
              · rw [if_pos (show v29 = 0 from c31)] at h
                refine go_iconst (pc' := 78) dX11_word_77 rfl (r32_c rfl) ?_
                cases h
                exact k4J
              · rw [if_neg (show ¬ (v29 = 0) from c31)] at h
                refine go_iconst (pc' := 74) dX11_word_73 rfl (r32_c rfl) ?_
                refine go_goto (t := 78) dX11_word_74 rfl ?_
                cases h
                exact k4J
        · rw [if_neg (show ¬ (x1 = 1) from c46)] at h
          refine go_iload_n (pc' := 38) dX11_word_37 rfl rfl ?_
          refine go_iconst (pc' := 39) dX11_word_38 rfl (r32_c rfl) ?_
          refine go_icmp_ne (t := 55) (pc' := 42) dX11_word_39 rfl rfl (fun c45 => ?_) (fun c45 => ?_)
          · rw [if_pos (show x1 ≠ 2 from c45)] at h
            refine go_iload_n (pc' := 56) dX11_word_55 rfl rfl ?_
            refine go_iconst (pc' := 57) dX11_word_56 rfl (r32_c rfl) ?_
            refine go_icmp_ne (t := 73) (pc' := 60) dX11_word_57 rfl rfl (fun c37 => ?_) (fun c37 => ?_)
            · rw [if_pos (show x1 ≠ 1 from c37)] at h
              refine go_iconst (pc' := 74) dX11_word_73 rfl (r32_c rfl) ?_
              refine go_goto (t := 78) dX11_word_74 rfl ?_
              cases h
              exact k4J
            · rw [if_neg (show ¬ (x1 ≠ 1) from c37)] at h
              refine go_aload_n (pc' := 61) dX11_word_60 rfl rfl (Nat.le_of_ble_eq_true rfl) ?_
              refine go_iload_n (pc' := 62) dX11_word_61 rfl rfl ?_
              refine go_i2l (pc' := 63) dX11_word_62 rfl ?_
              refine go_lconst (z := 0) (pc' := 64) dX11_word_63 rfl rfl ?_
              refine go_ldc2 (pc' := 67) dX11_word_64 rfl (r64_c rfl) rc_11_217 ?_
              obtain ⟨v34, k35, h⟩ := bd h
              have k35 := l_M_in (d + 0) n e σ x3 0 11 _ k35
              refine go_call (kc := 172) (Mc := mt172) (v := some (pvI v34)) (w' := (true, n, e, σ)) (pc' := 70) (st' := [pvI v34]) [pvR 11 0 129, pvL x3, pvL 0, pvL 11] [] (Or.inl rfl) dX11_word_67 rfl rm_11_145 mtE172 rfl rfl rfl (Nat.le_of_ble_eq_true rfl) (Or.inr ⟨_, _, 129, rfl, Or.inl rfl⟩) k35 rfl ?_
              refine go_if_eq (t := 77) (pc' := 73) dX11_word_70 rfl rfl (fun c36 => ?_) (fun c36 => ?_)
              · rw [if_pos (show v34 = 0 from c36)] at h
                refine go_iconst (pc' := 78) dX11_word_77 rfl (r32_c rfl) ?_
                cases h
                exact k4J
              · rw [if_neg (show ¬ (v34 = 0) from c36)] at h
                refine go_iconst (pc' := 74) dX11_word_73 rfl (r32_c rfl) ?_
                refine go_goto (t := 78) dX11_word_74 rfl ?_
                cases h
                exact k4J
          · rw [if_neg (show ¬ (x1 ≠ 2) from c45)] at h
            refine go_aload_n (pc' := 43) dX11_word_42 rfl rfl (Nat.le_of_ble_eq_true rfl) ?_
            refine go_iload_n (pc' := 44) dX11_word_43 rfl rfl ?_
            refine go_i2l (pc' := 45) dX11_word_44 rfl ?_
            refine go_lconst (z := 0) (pc' := 46) dX11_word_45 rfl rfl ?_
            refine go_ldc2 (pc' := 49) dX11_word_46 rfl (r64_c rfl) rc_11_217 ?_
            obtain ⟨v38, k39, h⟩ := bd h
            have k39 := l_M_in (d + 0) n e σ x2 0 11 _ k39
            refine go_call (kc := 172) (Mc := mt172) (v := some (pvI v38)) (w' := (true, n, e, σ)) (pc' := 52) (st' := [pvI v38]) [pvR 11 0 129, pvL x2, pvL 0, pvL 11] [] (Or.inl rfl) dX11_word_49 rfl rm_11_145 mtE172 rfl rfl rfl (Nat.le_of_ble_eq_true rfl) (Or.inr ⟨_, _, 129, rfl, Or.inl rfl⟩) k39 rfl ?_
            refine go_if_eq (t := 77) (pc' := 55) dX11_word_52 rfl rfl (fun c44 => ?_) (fun c44 => ?_)
            · rw [if_pos (show v38 = 0 from c44)] at h
              refine go_iconst (pc' := 78) dX11_word_77 rfl (r32_c rfl) ?_
              cases h
              exact k4J
            · rw [if_neg (show ¬ (v38 = 0) from c44)] at h
              refine go_iload_n (pc' := 56) dX11_word_55 rfl rfl ?_
              refine go_iconst (pc' := 57) dX11_word_56 rfl (r32_c rfl) ?_
              refine go_icmp_ne (t := 73) (pc' := 60) dX11_word_57 rfl rfl (fun c43 => ?_) (fun c43 => ?_)
              · rw [if_pos (show x1 ≠ 1 from c43)] at h
                refine go_iconst (pc' := 74) dX11_word_73 rfl (r32_c rfl) ?_
                refine go_goto (t := 78) dX11_word_74 rfl ?_
                cases h
                exact k4J
              · rw [if_neg (show ¬ (x1 ≠ 1) from c43)] at h
                refine go_aload_n (pc' := 61) dX11_word_60 rfl rfl (Nat.le_of_ble_eq_true rfl) ?_
                refine go_iload_n (pc' := 62) dX11_word_61 rfl rfl ?_
                refine go_i2l (pc' := 63) dX11_word_62 rfl ?_
                refine go_lconst (z := 0) (pc' := 64) dX11_word_63 rfl rfl ?_
                refine go_ldc2 (pc' := 67) dX11_word_64 rfl (r64_c rfl) rc_11_217 ?_
                obtain ⟨v40, k41, h⟩ := bd h
                have k41 := l_M_in (d + 0) n e σ x3 0 11 _ k41
                refine go_call (kc := 172) (Mc := mt172) (v := some (pvI v40)) (w' := (true, n, e, σ)) (pc' := 70) (st' := [pvI v40]) [pvR 11 0 129, pvL x3, pvL 0, pvL 11] [] (Or.inl rfl) dX11_word_67 rfl rm_11_145 mtE172 rfl rfl rfl (Nat.le_of_ble_eq_true rfl) (Or.inr ⟨_, _, 129, rfl, Or.inl rfl⟩) k41 rfl ?_
                refine go_if_eq (t := 77) (pc' := 73) dX11_word_70 rfl rfl (fun c42 => ?_) (fun c42 => ?_)
                · rw [if_pos (show v40 = 0 from c42)] at h
                  refine go_iconst (pc' := 78) dX11_word_77 rfl (r32_c rfl) ?_
                  cases h
                  exact k4J
                · rw [if_neg (show ¬ (v40 = 0) from c42)] at h
                  refine go_iconst (pc' := 74) dX11_word_73 rfl (r32_c rfl) ?_
                  refine go_goto (t := 78) dX11_word_74 rfl ?_
                  cases h
                  exact k4J

