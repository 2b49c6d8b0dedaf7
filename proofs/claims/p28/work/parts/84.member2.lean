section
variable {σ : Hp} {a a' b : Ab} {n : Nat} {B : Int} {e : Nat}
theorem Vw_stS {t : Hp} {X : Ab} (V : Vw t X) (row : Int → Int) (c : Int) : Vw (stS t row c.toNat) (plA X row c) := by
  intro q j hq
  by_cases h : q = 145
  · subst h
    have e : t 145 = X 145 := funext fun i => V 145 i (by unfold vwP; omega)
    unfold stS plA
    rw [if_pos rfl, if_pos rfl, e]
  · rw [st_q h, plA_q h]; exact V q j hq
theorem op_member (H : J σ a n B) (hB : B ≤ 100000) (d p w : Int) : OPT σ a n B e (fun code v b => TT a (((inD d ∧ thr a d p) ∧ (-1 ≤ w ∧ w ≤ 1)) ∧ (isP a d p ∧ a.many d < 12)) (fun v b => TKg a b d ∧ v = a.many d) code v b) (f_L_member σ e d p w) := by
  obtain ⟨W, K, V, I, VV, h1, h2⟩ := id H
  obtain ⟨R, IK, IW, I9⟩ := IC_r I
  -- the reference's first questions
  by_cases h : inD d ∧ thr a d p
  · obtain ⟨hd, ht⟩ := id h
    have hd' := inD_b hd
    have hdp := dP_b hd
    have mb := many_b W hd
    have p12 := thr12 W hd ht
    have e0 : σ (dP d) 0 = a.many d := icr_d R hd 0
    by_cases hw : -1 ≤ w ∧ w ≤ 1
    · by_cases hj : isP a d p ∧ a.many d < 12
      · have C : mbC a d p w := ⟨hd, hj.2, ht.1, ht.2, hj.1, hw.1, hw.2⟩
        have CL : Okk (f_C_member σ d p w) fun r => ∃ (row : Int → Int) (c : Int), Chn (mbX a d p w) row c ∧ r.1 = 0 ∧ r.2.1 = a.many d ∧ (∀ q : Nat, 129 ≤ q → (q ≤ 169 ∨ 1048576 ≤ q) → r.2.2 q = σ q) ∧ IC r.2.2 (mbA a d p w row c) n (B + 60) := by
          unfold f_C_member
          refine ok_eqb (nX_y hd) ?_
          rw [if_pos rfl]
          refine ok_eqb (nM_y W hd (icr_d R hd 0) ht) ?_
          rw [if_pos rfl]
          refine ok_eqb (nR_y hw) ?_
          rw [if_pos rfl]
          refine ok_eqb (r_plain W R hd ht) ?_
          rw [bI_t hj.1, if_neg (by omega)]
          dsimp only
          rw [e0, if_neg (by omega)]
          refine ok_bind (ok_some (ok_eqb need1 ?_))
          rw [if_pos rfl]
          refine ok_call (c_addPlain W R hd hj.2 p w (a.set (12 * d + a.many d)) (a.order (12 * d + a.many d))) ?_
          rintro r ⟨r1, r2, r3, r4⟩
          rw [r1]
          refine ok_call (c_stand W R C r2 r3) ?_
          rintro u ⟨u1, u2⟩
          have N := mb_B (a := a) (d := d) (p := p) (w := w) (row := u 93) (c := u 92 0)
          have E : ∀ q : Nat, q < dP d ∨ dP d + 29 < q → q ≠ 92 → q ≠ 93 → q ≠ 94 → u q = σ q := fun q hq q1 q2 q3 => by rw [u1 q q1 q2 q3, r3 q hq]
          have S2 := nwS_f (s2 := u) (fun q q1 q2 => u1 q (by omega) (by omega) (by omega)) r2
          have T : ∀ d' : Int, inD d' → told u (mbA a d p w (u 93) (u 92 0)) (dP d') d' := by
            intro d' hd''
            have hdp' := dP_b hd''
            by_cases g : d' = d
            · subst g; exact told_nw W (mb_C C) N mb_P (by omega) (icr_d R hd) S2
            · have := dP_ne hd hd'' g
              exact told_nx W (mb_C C) N mb_P hd'' g (icr_d R hd'') (fun q q1 q2 => E q (by omega) (by omega) (by omega) (by omega))
          have E11 : ∀ d' : Int, inD d' → u (dP d' + 11) = σ (dP d' + 11) := fun d' hd'' => by
            have hdp' := dP_b hd''
            by_cases g : d' = d
            · subst g; rw [u1 _ (by omega) (by omega) (by omega)]; exact r4
            · have := dP_ne hd hd'' g
              exact E _ (by omega) (by omega) (by omega) (by omega)
          refine ok_call (c_str I (mb_W W C u2.1) (nw_G W (mb_C C) (by omega) N) mb_M mb_F mb_D ⟨mb_j (by omega), mb_j (by omega)⟩ (frs_0 _) (mb_j (by omega)) (T 0 iD0) (T 1 iD1) (T 2 iD2) (mb_ICT W C u2) (fun q hq => ?_) (B' := B + 60) (by omega)) ?_
          · rcases hq with hq | hq | hq | hq | hq
            · exact E q (by omega) (by omega) (by omega) (by omega)
            · subst hq; exact E11 0 iD0
            · subst hq; exact E11 1 iD1
            · subst hq; exact E11 2 iD2
            · exact E q (by omega) (by omega) (by omega) (by omega)
          · rintro z ⟨z1, z2⟩
            refine ok_eqb (e_K_dropAll _) (ok_some ⟨u 93, u 92 0, u2.1, rfl, rfl, fun q q1 q2 => ?_, z2⟩)
            dsimp only; rw [hset_ne (by omega)]; exact z1 q (by omega)
        obtain ⟨r, er, row, c, CH, r1, r2, r3, r4⟩ := CL
        have W' := mb_W W C CH
        have N := mb_B (a := a) (d := d) (p := p) (w := w) (row := row) (c := c)
        have eh : Ab.hits (mbA a d p w row c) = a.hits := mb_j (by omega)
        refine ⟨0, a.many d, mbA a d p w row c, ⟨W', WFW_g K (nw_G W (mb_C C) (by omega) N) mb_D, by rw [eh]; exact h1, by rw [eh]; omega⟩, (TT_0 (⟨⟨fun j _ => N.1 j, mb_j (by omega), eh⟩, rfl⟩)), ?_⟩
        · unfold f_L_member
          exact L_ok W' (eq_ok er ⟨r1, r2, r3, r4⟩)
      · refine opt_er H 3 0 (TT_e ⟨by omega, by omega⟩ (fun q => hj q.2)) ?_
        · unfold f_L_member
          refine ok_eqb (v := (3, 0, σ)) ?_ ?_
          · unfold f_C_member; apply ok_eq
            refine ok_eqb (nX_y hd) ?_
            rw [if_pos rfl]
            refine ok_eqb (nM_y W hd (icr_d R hd 0) ht) ?_
            rw [if_pos rfl]
            refine ok_eqb (nR_y hw) ?_
            rw [if_pos rfl]
            refine ok_eqb (r_plain W R hd ht) ?_
            dsimp only
            rw [e0]
            refine ok_call (P := fun j => j = 0) ?_ ?_
            · by_cases g : isP a d p
              · rw [bI_t g, if_neg (by omega), if_pos (by have : ¬ a.many d < 12 := fun q => hj ⟨g, q⟩; omega)]; exact ok_some rfl
              · rw [bI_f g, if_pos rfl]; exact ok_some rfl
            rintro j rfl
            refine ok_eqb need0 ?_
            rw [if_neg (by omega)]
            exact ok_grd (by omega) (ok_some rfl)
          · (rw [if_neg (by simp), if_neg (by simp), if_neg (by simp), if_pos rfl]; exact ok_some (LR_er W I (by omega) _ _ (by omega)))
    · refine opt_er H 2 0 (TT_e ⟨by omega, by omega⟩ (fun q => hw q.1.2)) ?_
      · unfold f_L_member
        refine ok_eqb (v := (2, 0, σ)) ?_ ?_
        · unfold f_C_member; apply ok_eq
          refine ok_eqb (nX_y hd) ?_
          rw [if_pos rfl]
          refine ok_eqb (nM_y W hd (icr_d R hd 0) ht) ?_
          rw [if_pos rfl]
          refine ok_eqb (nR_n hw) ?_
          rw [if_neg (by omega)]
          exact ok_grd (by omega) (ok_some rfl)
        · (rw [if_neg (by simp), if_neg (by simp), if_pos rfl]; exact ok_some (LR_er W I (by omega) _ _ (by omega)))
  · refine opt_er H 1 0 (TT_e ⟨by omega, by omega⟩ (fun q => h q.1.1)) ?_
    · unfold f_L_member
      refine ok_eqb (v := (1, 0, σ)) ?_ ?_
      · unfold f_C_member; apply ok_eq
        by_cases hd : inD d
        · refine ok_eqb (nX_y hd) ?_
          rw [if_pos rfl]
          refine ok_eqb (nM_n (icr_d R hd 0) (fun g => h ⟨hd, g⟩)) ?_
          rw [if_neg (by omega)]
          exact ok_grd (by omega) (ok_some rfl)
        · refine ok_eqb (nX_n hd) ?_
          rw [if_neg (by simp)]
          exact ok_grd (by simp) (ok_some rfl)
      · (rw [if_neg (by simp), if_pos rfl]; exact ok_some (LR_er W I (by omega) _ _ (by omega)))
end
