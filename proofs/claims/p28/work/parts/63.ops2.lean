/-! ===== calls that change little ===== -/
section
variable {σ : Hp} {a a' : Ab} {n : Nat} {B : Int} {e : Nat}
theorem C_at_0 (W : WFA a) (R : ICR σ a) {d m : Int} (hd : inD d) (ht : thr a d m) : f_C_at σ d m = some (0, a.chos d, hset σ (dP d) 1 m) := by
  have h1 : σ (dP d) 1 = a.chos d := icr_d R hd 1
  unfold f_C_at; apply ok_eq
  refine ok_eqb (nX_y hd) ?_
  rw [if_pos rfl]
  refine ok_eqb (nM_y W hd (icr_d R hd 0) ht) ?_
  rw [if_pos rfl, h1]
  exact ok_some rfl
theorem C_at_1 (R : ICR σ a) {d m : Int} (h : ¬ (inD d ∧ thr a d m)) : f_C_at σ d m = some (1, 0, σ) := by
  unfold f_C_at; apply ok_eq
  by_cases hd : inD d
  · refine ok_eqb (nX_y hd) ?_
    rw [if_pos rfl]
    refine ok_eqb (nM_n (icr_d R hd 0) (fun g => h ⟨hd, g⟩)) ?_
    rw [if_neg (by omega)]
    exact ok_grd (by omega) (ok_some rfl)
  · refine ok_eqb (nX_n hd) ?_
    rw [if_neg (by simp)]
    exact ok_grd (by simp) (ok_some rfl)
theorem at_S {d m : Int} : smem a (hset a 163 d m) := ⟨fun q hq => hset_ne (by omega), by show hset a 163 d m 129 15 = a 129 15; rw [hset_ne (by omega)]⟩
theorem at_V {d m : Int} : sval a (hset a 163 d m) := ⟨at_S, ⟨hset_ne (by omega), hset_ne (by omega), hset_ne (by omega), hset_ne (by omega), by show hset a 163 d m 129 23 = a 129 23; rw [hset_ne (by omega)]⟩, ⟨by show hset a 163 d m 129 16 = a 129 16; rw [hset_ne (by omega)], by show hset a 163 d m 129 17 = a 129 17; rw [hset_ne (by omega)]⟩, fun q h1 h2 => hset_ne (by omega), by show hset a 163 d m 129 29 = a 129 29; rw [hset_ne (by omega)], fun i _ => ⟨by show hset a 163 d m 137 i = a 137 i; rw [hset_ne (by omega)], by show hset a 163 d m 138 i = a 138 i; rw [hset_ne (by omega)], by show hset a 163 d m 139 i = a 139 i; rw [hset_ne (by omega)]⟩, fun s _ => by show hset a 163 d m 140 s = a 140 s; rw [hset_ne (by omega)]⟩
theorem op_at (H : J σ a n B) (d m : Int) : OPT σ a n B e (fun code v b => TT a (inD d ∧ thr a d m) (fun _ b => b = hset a 163 d m) code v b) (f_L_at σ e d m) := by
  obtain ⟨W, K, V, I, VV, h1, h2⟩ := id H
  obtain ⟨R, IK, IW, I9⟩ := IC_r I
  by_cases h : inD d ∧ thr a d m
  · obtain ⟨hd, ht⟩ := h
    have hdp := dP_b hd
    have hd' := inD_b hd
    have F : sfac a (hset a 163 d m) := ⟨fun q h1 h2 => hset_ne (by omega), by show hset a 163 d m 129 29 = a 129 29; rw [hset_ne (by omega)], by show hset a 163 d m 129 35 = a 129 35; rw [hset_ne (by omega)]⟩
    have D : swd a (hset a 163 d m) := ⟨hset_ne (by omega), hset_ne (by omega), hset_ne (by omega), hset_ne (by omega)⟩
    have a3 : Ab.hits (hset a 163 d m) = a.hits := by show hset a 163 d m 129 41 = a 129 41; rw [hset_ne (by omega)]
    have a4 : Ab.keeps (hset a 163 d m) = a.keeps := by show hset a 163 d m 129 40 = a 129 40; rw [hset_ne (by omega)]
    have hc : ∀ d' : Int, Ab.chos (hset a 163 d m) d' = if d' = d then m else a.chos d' := fun d' => hs_if
    have h130 : Ab.many (hset a 163 d m) = a.many := hset_ne (by omega)
    have W' : WFA (hset a 163 d m) := by
      refine WFA_by W at_S (wfa_8 W at_V.2.2.1.1 at_V.2.2.1.2) at_V.2.1 F (wfa_k W at_S at_V.2.1.2.2.2.2 (hset_ne (by omega)) a4) (fun k hk => ?_) (by show hset a 163 d m 140 36 = a 140 36; rw [hset_ne (by omega)])
      rcases hk with rfl | rfl
      · intro d' hd''
        rw [hc]
        simp only [thr, h130]
        by_cases g : d' = d
        · rw [if_pos g, g]; exact ht
        · rw [if_neg g]; exact W 15 d' hd''
      · have h164 : Ab.pick (hset a 163 d m) = a.pick := hset_ne (by omega)
        have h165 : Ab.picks (hset a 163 d m) = a.picks := hset_ne (by omega)
        have h131 : Ab.kind (hset a 163 d m) = a.kind := hset_ne (by omega)
        have := W 16
        simp only [wfa, thr, isP, h130, h131, h164, h165] at this ⊢; exact this
    refine ⟨0, a.chos d, hset a 163 d m, ⟨W', WFW_s K D at_S, by rw [a3]; exact h1, by rw [a3]; omega⟩, (TT_0 (rfl)), ?_⟩
    · unfold f_L_at
      refine L_ok W' (eq_ok (C_at_0 W R hd ht) ⟨rfl, rfl, fun q q1 q2 => hset_ne (by omega), ?_⟩)
      dsimp only
      have Rn : ∀ d' : Int, inD d' → ICD (hset σ (dP d) 1 m) (hset a 163 d m) (dP d') d' := by
        intro d' hd''
        have hdp' := dP_b hd''
        have G := icr_d R hd''
        have E : ∀ q : Nat, q ≠ dP d → hset σ (dP d) 1 m q = σ q := fun q hq => hset_ne hq
        have hdd : dP d' = dP d → d' = d := by
          unfold dP
          rcases hd with rfl | rfl | rfl <;> rcases hd'' with rfl | rfl | rfl <;> simp
        have e0 : hset σ (dP d) 1 m (dP d') 0 = σ (dP d') 0 := hs_nj (by omega)
        have e2 : hset σ (dP d) 1 m (dP d') 2 = σ (dP d') 2 := hs_nj (by omega)
        have G1 : ICD σ a (dP d') d' := G
        intro k
        by_cases k1 : k = 1
        · subst k1
          show hset σ (dP d) 1 m (dP d') 1 = Ab.chos (hset a 163 d m) d'
          rw [hc]
          by_cases g : d' = d
          · rw [if_pos g, g]; exact hs_eq
          · rw [if_neg g, hset_ne (fun q => g (hdd q))]; exact G 1
        · by_cases k2 : k = 2
          · subst k2
            have g := G 2
            have h164 : Ab.pick (hset a 163 d m) = a.pick := hset_ne (by omega)
            have h165 : Ab.picks (hset a 163 d m) = a.picks := hset_ne (by omega)
            simp only [icd, h164, h165, e2] at g ⊢
            rw [E _ (by omega)]; exact g
          · have g := icd_s at_S G1 (a' := hset a 163 d m) k k1 k2
            match k, k1, k2, g with
            | 0, _, _, g => simp only [icd] at g ⊢; rw [e0]; exact g
            | 3, _, _, g => exact icd_c3 (E _ (by omega)) g
            | 4, _, _, g => exact icd_c4 (E _ (by omega)) (E _ (by omega)) g
            | 5, _, _, g => exact icd_c5 (E _ (by omega)) g
            | 6, _, _, g => exact icd_c6 (E _ (by omega)) g
            | 7, _, _, g => exact icd_c7 (E _ (by omega)) g
            | 8, _, _, g => exact icd_c8 (E _ (by omega)) g
            | 9, _, _, g => exact icd_c9 (E _ (by omega)) g
            | 10, _, _, g => exact icd_c10 (E _ (by omega)) g
            | 11, _, _, g => exact icd_c11 (E _ (by omega)) g
            | 12, _, _, g => exact icd_c12 (by have := many_b W' iD0; omega) (fun i hi => E _ (by omega)) g
            | 13, _, _, g => exact icd_c13 (E _ (by omega)) (E _ (by omega)) (E _ (by omega)) (E _ (by omega)) g
            | _ + 14, _, _, _ => trivial
      have E : ∀ q : Nat, 92 ≤ q → hset σ (dP d) 1 m q = σ q := fun q hq => hset_ne (by omega)
      refine IC_mk ⟨Rn 0 iD0, Rn 1 iD1, Rn 2 iD2, ICT_s W at_S (fun k => ?_), ⟨?_, ?_⟩, ICM_s at_V.2.1 (fun k => ?_), ICF_s F (fun k => ?_)⟩ (ICK_s W K at_V a4 a3 (hset_ne (by omega)) (ICK_f (fun q h1 h2 => E q (by omega)) IK)) (ICW_s D at_S (ICW_f (fun q hq => hset_ne (by omega)) IW)) ?_
      · have g := R.2.2.2.1 k
        match k, g with
        | 0, g => exact ict_c0 (E 92 (by omega)) (E 93 (by omega)) g
        | 1, g => exact ict_c1 (E 94 (by omega)) g
        | _ + 2, _ => trivial
      · rw [hset_ne (by omega), at_V.2.2.1.1]; exact R.2.2.2.2.1.1
      · rw [hset_ne (by omega), at_V.2.2.1.2]; exact R.2.2.2.2.1.2
      · have g := R.2.2.2.2.2.1 k
        match k, g with
        | 0, g => simp only [icm, E 95 (by omega)] at g ⊢; exact g
        | 1, g => simp only [icm, E 96 (by omega), E 97 (by omega), E 98 (by omega)] at g ⊢; exact g
        | 2, g => simp only [icm, E 99 (by omega)] at g ⊢; exact g
        | 3, g => simp only [icm, E 100 (by omega)] at g ⊢; exact g
        | _ + 4, _ => trivial
      · have g := R.2.2.2.2.2.2 k
        match k, g with
        | 0, g => simp only [icf, E 101 (by omega), E 102 (by omega), E 103 (by omega), E 104 (by omega)] at g ⊢; exact g
        | 1, g => simp only [icf, E 101 (by omega)] at g ⊢; exact g
        | 2, g => simp only [icf, E 101 (by omega), E 105 (by omega), E 106 (by omega), E 107 (by omega)] at g ⊢; exact g
        | _ + 3, _ => trivial
      · unfold ic9 at I9 ⊢; rw [E 116 (by omega), E 117 (by omega)]; exact ⟨I9.1, by omega, I9.2.2⟩
  · refine opt_er H 1 0 (TT_e ⟨by omega, by omega⟩ (h)) ?_
    · unfold f_L_at
      refine ok_eqb (C_at_1 R h) ?_
      (rw [if_neg (by simp), if_pos rfl]; exact ok_some (LR_er W I (by omega) _ _ (by omega)))
theorem op_picked (H : J σ a n B) (d k : Int) : OPT σ a n B e (fun code v b => TT a (inD d ∧ 0 ≤ k) (fun v b => b = a ∧ v = if k < a.picks d then a.pick (12 * d + k) else -1) code v b) (f_L_picked σ e d k) := by
  obtain ⟨W, K, V, I, VV, h1, h2⟩ := id H
  obtain ⟨R, IK, IW, I9⟩ := IC_r I
  by_cases h : inD d ∧ 0 ≤ k
  · obtain ⟨hd, hk⟩ := h
    have hd' := inD_b hd
    have h16 := (show ∀ d : Int, inD d → 0 ≤ a.picks d ∧ a.picks d ≤ 12 ∧ ∀ i : Int, 0 ≤ i → i < a.picks d → thr a d (a.pick (12 * d + i)) ∧ isP a d (a.pick (12 * d + i)) from W 16) d hd
    have g2 : σ (dP d) 2 = a.picks d ∧ ∀ i : Int, 0 ≤ i → i < a.picks d → σ (dP d + 12) i = a.pick (12 * d + i) := icr_d R hd 2
    refine opt_er H 0 (if k < a.picks d then a.pick (12 * d + k) else -1) (TT_0 (⟨rfl, rfl⟩)) ?_
    · unfold f_L_picked f_C_picked
      refine ok_bind (ok_eqb (nX_y hd) ?_)
      rw [if_pos rfl, if_pos hk]
      refine ok_eqb (e_D_pickedAt σ _ k) (ok_some ?_)
      rw [if_pos rfl]
      refine ok_grd (by omega) (ok_some ⟨rfl, fun _ => ?_, by show e ≤ e + 1; omega, fun q q1 q2 => hset_ne (by omega), IC_m W (fun q hq => hset_ne (by omega)) (by omega) I⟩)
      refine (hs_eq (σ := σ) (p := 170) (i := 0)).trans ?_
      dsimp only
      rw [g2.1]
      by_cases g : k < a.picks d
      · rw [if_pos ⟨hk, g, by omega⟩, if_pos g]; exact g2.2 k hk g
      · rw [if_neg (fun q => g q.2.1), if_neg g]; exact hs_eq
  · refine opt_er H 1 0 (TT_e ⟨by omega, by omega⟩ (h)) ?_
    · unfold f_L_picked
      refine ok_eqb (v := (1, 0)) ?_ ?_
      · unfold f_C_picked; apply ok_eq
        by_cases hd : inD d
        · refine ok_eqb (nX_y hd) ?_
          rw [if_pos rfl, if_neg (fun q => h ⟨hd, q⟩)]
          exact ok_some rfl
        · refine ok_eqb (nX_n hd) ?_
          rw [if_neg (by simp)]
          exact ok_grd (by simp) (ok_some rfl)
      · (rw [if_neg (by simp), if_pos rfl]; exact ok_some (LR_er W I (by omega) _ _ (by omega)))
theorem op_memberAt (H : J σ a n B) (d m w : Int) : OPT σ a n B e (fun code v b => TT a ((inD d ∧ thr a d m) ∧ (0 ≤ w ∧ w ≤ 4)) (fun v b => b = a ∧ v = if w = 0 then a.kind (12 * d + m) else if w = 1 then (if isP a d m ∧ 0 < m then now a d m else -1) else if w = 2 then (if isP a d m then dep a d m else -1) else if w = 3 then (if isP a d m ∧ d = 0 then a.place m else -1) else bI (seeP a d m)) code v b) (f_L_memberAt σ e d m w) := by
  obtain ⟨W, K, V, I, VV, h1, h2⟩ := id H
  obtain ⟨R, IK, IW, I9⟩ := IC_r I
  by_cases h : inD d ∧ thr a d m
  · obtain ⟨hd, ht⟩ := h
    have hd' := inD_b hd
    have m12 := thr12 W hd ht
    have mb := many_b W hd
    have D := icr_d R hd
    have d0 : σ (dP d) 0 = a.many d := D 0
    have d3 : ∀ m : Int, thr a d m → σ (dP d + 5) m = a.kind (12 * d + m) := D 3
    by_cases hw : 0 ≤ w ∧ w ≤ 4
    · have hcond : ∀ Q : Prop, Q → (0 ≤ m ∧ m < σ (dP d) 0 ∧ m < 12 ∧ σ (dP d + 5) m = 0 → Q) := fun Q q _ => q
      refine opt_er H 0 (if w = 0 then a.kind (12 * d + m) else if w = 1 then (if isP a d m ∧ 0 < m then now a d m else -1) else if w = 2 then (if isP a d m then dep a d m else -1) else if w = 3 then (if isP a d m ∧ d = 0 then a.place m else -1) else bI (seeP a d m)) (TT_0 (⟨rfl, rfl⟩)) ?_
      · unfold f_L_memberAt
        refine ok_call (P := fun r => r.1 = 0 ∧ r.2 = if w = 0 then a.kind (12 * d + m) else if w = 1 then (if isP a d m ∧ 0 < m then now a d m else -1) else if w = 2 then (if isP a d m then dep a d m else -1) else if w = 3 then (if isP a d m ∧ d = 0 then a.place m else -1) else bI (seeP a d m)) ?_ ?_
        · unfold f_C_memberAt
          refine ok_eqb (nX_y hd) ?_
          rw [if_pos rfl]
          refine ok_eqb (nM_y W hd (D 0) ht) ?_
          rw [if_pos rfl]
          refine ok_eqb (nR_y hw) ?_
          rw [if_pos rfl]
          by_cases w0 : w = 0
          · rw [if_pos w0, if_pos w0]
            refine ok_eqb (e_D_kindOf σ _ m) (ok_some ⟨rfl, ?_⟩)
            dsimp only
            rw [d0, if_pos ⟨m12.1, ht.2, m12.2⟩, d3 m ht]
          · rw [if_neg w0, if_neg w0]
            by_cases w1 : w = 1
            · rw [if_pos w1, if_pos w1]
              by_cases p : isP a d m
              · refine ok_eqb (r_parentOf W hd D ht p) (ok_some ⟨rfl, ?_⟩)
                dsimp only
                by_cases z : m = 0
                · rw [if_pos z, if_neg (fun q => by omega)]
                · rw [if_neg z, if_pos ⟨p, by omega⟩]
              · refine ok_eqb (e_D_parentOf σ _ m) (ok_some ⟨rfl, ?_⟩)
                dsimp only
                rw [if_neg (fun q => p (by show a.kind _ = 0; rw [← d3 m ht]; exact q.2.2.2)), if_neg (fun q => p q.1)]
            · rw [if_neg w1, if_neg w1]
              by_cases w2 : w = 2
              · rw [if_pos w2, if_pos w2]
                by_cases p : isP a d m
                · refine ok_eqb (r_depthOf W hd D ht p) (ok_some ⟨rfl, ?_⟩)
                  dsimp only
                  rw [if_pos p]
                · refine ok_eqb (e_D_depthOf σ _ m) (ok_some ⟨rfl, ?_⟩)
                  dsimp only
                  rw [if_neg (fun q => p (by show a.kind _ = 0; rw [← d3 m ht]; exact q.2.2.2)), if_neg p]
              · rw [if_neg w2, if_neg w2]
                by_cases w3 : w = 3
                · rw [if_pos w3, if_pos w3]
                  refine ok_call (P := fun r => r = if isP a d m ∧ d = 0 then a.place m else -1) ?_ ?_
                  · refine ok_ite (fun g => ok_some (if_neg (fun q => g q.2)).symm) (fun g => ?_)
                    have g' := Classical.not_not.mp g
                    have hT1 : ∀ m : Int, 0 ≤ m → m < 12 → σ 94 m = @ite _ (thr a 0 m ∧ isP a 0 m) (Classical.propDecidable _) (a.place m) (-1) := R.2.2.2.1 1
                    refine ok_eqb (e_TO_placeOf σ m) (ok_some ?_)
                    rw [if_pos m12, hT1 m m12.1 m12.2]
                    subst g'
                    by_cases p : isP a 0 m
                    · rw [if_pos ⟨ht, p⟩, if_pos ⟨p, rfl⟩]
                    · rw [if_neg (fun q => p q.2), if_neg (fun q => p q.1)]
                  · rintro r rfl; exact ok_some ⟨rfl, rfl⟩
                · rw [if_neg w3, if_neg w3]
                  refine ok_eqb (r_isSeen W hd D ht) (ok_call (P := fun r => r = bI (seeP a d m)) ?_ ?_)
                  · by_cases s : seeP a d m
                    · rw [bI_t s, if_neg (by omega)]; exact ok_some rfl
                    · rw [bI_f s, if_pos rfl]; exact ok_some rfl
                  · rintro r rfl; exact ok_some ⟨rfl, rfl⟩
        · rintro r ⟨r1, r2⟩
          rw [if_pos r1]
          refine ok_grd (by omega) (ok_some ⟨rfl, fun _ => ?_, by show e ≤ e + 1; omega, fun q q1 q2 => hset_ne (by omega), IC_m W (fun q hq => hset_ne (by omega)) (by omega) I⟩)
          show hset σ 170 0 _ 170 0 = _
          rw [hs_eq]; exact r2
    · refine opt_er H 2 0 (TT_e ⟨by omega, by omega⟩ (fun q => hw q.2)) ?_
      · unfold f_L_memberAt
        refine ok_eqb (v := (2, 0)) ?_ ?_
        · unfold f_C_memberAt; apply ok_eq
          refine ok_eqb (nX_y hd) ?_
          rw [if_pos rfl]
          refine ok_eqb (nM_y W hd (D 0) ht) ?_
          rw [if_pos rfl]
          refine ok_eqb (nR_n hw) ?_
          rw [if_neg (by omega)]
          exact ok_grd (by omega) (ok_some rfl)
        · (rw [if_neg (by simp), if_neg (by simp), if_pos rfl]; exact ok_some (LR_er W I (by omega) _ _ (by omega)))
  · refine opt_er H 1 0 (TT_e ⟨by omega, by omega⟩ (fun q => h q.1)) ?_
    · unfold f_L_memberAt
      refine ok_eqb (v := (1, 0)) ?_ ?_
      · unfold f_C_memberAt; apply ok_eq
        by_cases hd : inD d
        · refine ok_eqb (nX_y hd) ?_
          rw [if_pos rfl]
          refine ok_eqb (nM_n (icr_d R hd 0) (fun g => h ⟨hd, g⟩)) ?_
          rw [if_neg (by omega)]
          exact ok_grd (by omega) (ok_some rfl)
        · refine ok_eqb (nX_n hd) ?_
          rw [if_neg (by simp)]
          exact ok_grd (by simp) (ok_some rfl)
      · (rw [if_neg (by simp), if_pos rfl]; exact ok_some (LR_er W I (by omega) _ _ (by omega)))
theorem op_cellAnew (H : J σ a n B) (hB : B ≤ 100000) (t x y m : Int) : OPT σ a n B e (fun code v b => TT a (mem4 a t x y m) (fun v b => b = a ∧ v = @ite _ (seeP a 0 t ∧ seeP a 1 x ∧ seeP a 2 y) (Classical.propDecidable _) (val a m t x y) zNO) code v b) (f_L_cellAnew σ e t x y m) := by
  obtain ⟨W, K, V, I, VV, h1, h2⟩ := id H
  obtain ⟨R, IK, IW, I9⟩ := IC_r I
  by_cases h : mem4 a t x y m
  · have hc : cin a t x y := ⟨h.1, h.2.1, h.2.2.1⟩
    refine ⟨0, @ite _ (seeP a 0 t ∧ seeP a 1 x ∧ seeP a 2 y) (Classical.propDecidable _) (val a m t x y) zNO, a, ⟨W, K, h1, by omega⟩, (TT_0 (⟨rfl, rfl⟩)), ?_⟩
    · unfold f_L_cellAnew
      refine L_ok W ?_
      unfold f_C_cellAnew
      refine ok_eqb (nC_y' W R h) ?_
      rw [if_pos rfl]
      refine ok_call (c_begins W R (ICW_fok IW) I9 (by omega) m) ?_
      rintro s ⟨s1, s2, s3⟩
      refine ok_call (c_asAsked W K h.2.2.2.1 h.2.2.2.2 s1 hc) ?_
      rintro r ⟨r1, r2, r3⟩
      refine ok_some ⟨rfl, r1, fun q q1 q2 => ?_, ?_⟩
      · show r.2 q = σ q
        rw [r3.1 q (by omega), s2 q (by omega)]
      · have E : ∀ q : Nat, (q < 116 ∨ 124 ≤ q) → r.2 q = σ q := fun q hq => by rw [r3.1 q hq, s2 q (by omega)]
        refine IC_mk r2.1 (ICK_f (fun q q1 q2 => E q (by omega)) IK) (ICW_f (fun q hq => E q (by omega)) IW) ?_
        have e4 : r.2 116 4 = σ 116 4 + 1 := by rw [r3.2.1 4 (by omega), s3]
        exact ⟨by rw [e4]; have := I9.1; omega, by rw [e4]; have := I9.2.1; omega, r2.2.2.2.1⟩
  · refine opt_er H 1 0 (TT_e ⟨by omega, by omega⟩ (h)) ?_
    · unfold f_L_cellAnew
      refine ok_eqb (v := (1, 0, σ)) ?_ ?_
      · unfold f_C_cellAnew; apply ok_eq
        refine ok_eqb (nC_n' W R h) ?_
        rw [if_neg (by simp)]
        exact ok_grd (by simp) (ok_some rfl)
      · (rw [if_neg (by simp), if_pos rfl]; exact ok_some (LR_er W I (by omega) _ _ (by omega)))
end
