section
variable {σ : Hp} {a a' b : Ab} {n : Nat} {B : Int} {e : Nat} {d : Int}
theorem c_addBridge (W : WFA a) (R : ICR σ a) (hd : inD d) (hm : a.many d < 12) (s pr sg o : Int) : Okk (f_D_addBridge σ (dP d) s) fun r => r.1 = a.many d ∧ nwS σ r.2 (dP d) (a.many d) 1 pr sg s o ∧ (∀ q : Nat, q < dP d ∨ dP d + 29 < q → r.2 q = σ q) ∧ r.2 (dP d + 11) = σ (dP d + 11) := by
  have mb := many_b W hd
  have e0 : σ (dP d) 0 = a.many d := icr_d R hd 0
  unfold f_D_addBridge
  refine ok_eqb (e_D_addKind (k := 1) e0 (by omega) hm) ?_
  dsimp only
  have e1 : (hset (hset σ (dP d + 5) (a.many d) 1) (dP d) 0 (a.many d + 1)) (dP d) 0 = a.many d + 1 := hs_eq
  refine ok_eqb (e_D_has _ (dP d) (a.many d)) ?_
  rw [e1, bI_t ⟨by omega, by omega, hm⟩, if_neg (by omega)]
  refine ok_bind (ok_grd ⟨by omega, hm⟩ (ok_some (ok_some ⟨rfl, ?_, fun q hq => ?_, ?_⟩)))
  · dsimp only
    generalize hs : hset (hset (hset σ (dP d + 5) (a.many d) 1) (dP d) 0 (a.many d + 1)) (dP d + 8) (a.many d) s = u
    have E : ∀ q : Nat, q ≠ dP d → q ≠ dP d + 5 → q ≠ dP d + 8 → u q = σ q := fun q q1 q2 q3 => by rw [← hs, hset_ne q3, hset_ne q1, hset_ne q2]
    refine ⟨?_, fun j hj => ?_, fun j => ?_, fun q hq j hj => ?_, fun g => absurd g (by omega), fun _ => ?_, fun g => absurd g (by omega), fun q hq => E q (by omega) (by omega) (by omega)⟩
    · rw [← hs, hset_ne (by omega)]; exact hs_eq
    · rw [← hs, hset_ne (by omega), hs_nj hj, hset_ne (by omega)]
    · rw [← hs, hset_ne (by omega), hset_ne (by omega), hs_if]
    · by_cases q8 : q = dP d + 8
      · rw [← hs, q8, hs_nj hj, hset_ne (by omega), hset_ne (by omega)]
      · rw [E q (by omega) (by omega) q8]
    · rw [← hs]; exact hs_eq
  · dsimp only; rw [hset_ne (by omega), hset_ne (by omega), hset_ne (by omega)]
  · dsimp only; rw [hset_ne (by omega), hset_ne (by omega), hset_ne (by omega)]
theorem op_bridge (H : J σ a n B) (hB : B ≤ 100000) (d s : Int) : OPT σ a n B e (fun code v b => TT a False (fun v b => TKg a b d ∧ v = a.many d) code v b) (f_L_bridge σ e d s) := by
  obtain ⟨W, K, V, I, VV, h1, h2⟩ := id H
  obtain ⟨R, IK, IW, I9⟩ := IC_r I
  by_cases hd : inD d
  · have hd' := inD_b hd
    have mb := many_b W hd
    have e0 : σ (dP d) 0 = a.many d := icr_d R hd 0
    by_cases hs : 1 ≤ s ∧ s ≤ 4095
    · have sh := shr_e (x := s) (k := a.many d) (by omega) (by omega) (by omega) (by omega)
      by_cases hb : ishr s (a.many d) = 0
      · have hlt : ∀ k : Int, 0 ≤ k → bitP s k → k < a.many d := fun k k0 q => bit_lt (by omega) (by omega) k0 (by rw [← sh]; exact hb) q
        have bc := e_bitCount σ (x := s) (by omega) (by omega)
        have ap := e_areAllPlain W R hd (s := s) (by omega) (by omega) hlt
        by_cases hj : brP a d s ∧ pcF s.toNat 12 ≤ 5 ∧ a.many d < 12
        · obtain ⟨hp, h5, hm⟩ := hj
          have C : nwC a d 1 (a.par (12 * d + a.many d)) (a.sign (12 * d + a.many d)) s (a.order (12 * d + a.many d)) := ⟨hd, hm, Or.inr (Or.inl ⟨rfl, hs.1, hs.2, fun k k0 k1 q => ⟨hlt k k0 q, hp k k0 k1 q⟩⟩)⟩
          have W' := nf_W W C (Or.inl (by omega)) (by omega)
          have eh : Ab.hits (nwF a d 1 (a.par (12 * d + a.many d)) (a.sign (12 * d + a.many d)) s (a.order (12 * d + a.many d))) = a.hits := nf_j (by omega)
          refine ⟨0, a.many d, nwF a d 1 (a.par (12 * d + a.many d)) (a.sign (12 * d + a.many d)) s (a.order (12 * d + a.many d)), ⟨W', WFW_g K (nw_G W C (by omega) nf_B) nf_D, by rw [eh]; exact h1, by rw [eh]; omega⟩, (TT_0 (⟨⟨fun j _ => nf_B.1 j, nf_j (by omega), eh⟩, rfl⟩)), ?_⟩
          · unfold f_L_bridge
            refine L_ok W' ?_
            unfold f_C_bridge
            refine ok_eqb (nX_y hd) ?_
            rw [if_pos rfl, if_neg (show ¬ s < 1 by omega), if_neg (show ¬ 4095 < s by omega)]
            refine ok_bind (ok_some ?_)
            dsimp only
            rw [if_neg (by omega), e0, if_pos hb]
            refine ok_eqb (nR_y hs) ?_
            rw [if_pos rfl]
            refine ok_eqb bc ?_
            rw [if_neg (by omega)]
            refine ok_bind (ok_eqb ap ?_)
            rw [bI_t hp, if_neg (by omega)]
            refine ok_some (ok_eqb need1 ?_)
            rw [if_pos rfl, if_neg (by omega)]
            refine ok_bind (ok_some (ok_eqb need1 ?_))
            rw [if_pos rfl]
            refine ok_call (c_addBridge W R hd hm s (a.par (12 * d + a.many d)) (a.sign (12 * d + a.many d)) (a.order (12 * d + a.many d))) ?_
            rintro r ⟨r1, r2, r3, r4⟩
            refine ok_call (c_nw W I C (Or.inl (by omega)) (by omega) r2 r3 r4 (B' := B + 60) (by omega)) ?_
            rintro u ⟨u1, u2⟩
            refine ok_eqb (e_K_dropAll _) (ok_some ⟨rfl, r1, fun q q1 q2 => ?_, u2⟩)
            dsimp only; rw [hset_ne (by omega)]; exact u1 q (by omega)
        · refine opt_er H 3 0 (TT_e ⟨by omega, by omega⟩ (fun q => q)) ?_
          · unfold f_L_bridge
            refine ok_eqb (v := (3, 0, σ)) ?_ ?_
            · unfold f_C_bridge; apply ok_eq
              refine ok_eqb (nX_y hd) ?_
              rw [if_pos rfl, if_neg (show ¬ s < 1 by omega), if_neg (show ¬ 4095 < s by omega)]
              refine ok_bind (ok_some ?_)
              dsimp only
              rw [if_neg (by omega), e0, if_pos hb]
              refine ok_eqb (nR_y hs) ?_
              rw [if_pos rfl]
              refine ok_eqb bc ?_
              by_cases g5 : 5 < ((pcF s.toNat 12 : Nat) : Int)
              · rw [if_pos g5]
                refine ok_bind (ok_some (ok_eqb need0 ?_))
                rw [if_neg (by omega)]
                exact ok_grd (by omega) (ok_some rfl)
              · rw [if_neg g5]
                refine ok_bind (ok_eqb ap ?_)
                by_cases gp : brP a d s
                · rw [bI_t gp, if_neg (by omega)]
                  refine ok_some (ok_eqb need1 ?_)
                  have gm : ¬ a.many d < 12 := fun q => hj ⟨gp, by omega, q⟩
                  rw [if_pos rfl, if_pos (by omega)]
                  refine ok_bind (ok_some (ok_eqb need0 ?_))
                  rw [if_neg (by omega)]
                  exact ok_grd (by omega) (ok_some rfl)
                · rw [bI_f gp, if_pos rfl]
                  refine ok_some (ok_eqb need0 ?_)
                  rw [if_neg (by omega)]
                  exact ok_grd (by omega) (ok_some rfl)
            · (rw [if_neg (by simp), if_neg (by simp), if_neg (by simp), if_pos rfl]; exact ok_some (LR_er W I (by omega) _ _ (by omega)))
      · refine opt_er H 1 0 (TT_e ⟨by omega, by omega⟩ (fun q => q)) ?_
        · unfold f_L_bridge
          refine ok_eqb (v := (1, 0, σ)) ?_ ?_
          · unfold f_C_bridge; apply ok_eq
            refine ok_eqb (nX_y hd) ?_
            rw [if_pos rfl, if_neg (show ¬ s < 1 by omega), if_neg (show ¬ 4095 < s by omega)]
            refine ok_bind (ok_some ?_)
            dsimp only
            rw [if_neg (by omega), e0, if_neg hb]
            exact ok_some rfl
          · (rw [if_neg (by simp), if_pos rfl]; exact ok_some (LR_er W I (by omega) _ _ (by omega)))
    · refine opt_er H 2 0 (TT_e ⟨by omega, by omega⟩ (fun q => q)) ?_
      · unfold f_L_bridge
        refine ok_eqb (v := (2, 0, σ)) ?_ ?_
        · unfold f_C_bridge; apply ok_eq
          refine ok_eqb (nX_y hd) ?_
          rw [if_pos rfl]
          refine ok_call (P := fun j => j = 0) ?_ ?_
          · exact ok_ite (fun _ => ok_some rfl) (fun g => ok_ite (fun _ => ok_some rfl) (fun g2 => absurd ⟨by omega, by omega⟩ hs))
          rintro j rfl
          rw [if_pos rfl]
          refine ok_eqb (nR_n hs) ?_
          rw [if_neg (by omega)]
          exact ok_grd (by omega) (ok_some rfl)
        · (rw [if_neg (by simp), if_neg (by simp), if_pos rfl]; exact ok_some (LR_er W I (by omega) _ _ (by omega)))
  · refine opt_er H 1 0 (TT_e ⟨by omega, by omega⟩ (fun q => q)) ?_
    · unfold f_L_bridge
      refine ok_eqb (v := (1, 0, σ)) ?_ ?_
      · unfold f_C_bridge; apply ok_eq
        refine ok_eqb (nX_n hd) ?_
        rw [if_neg (by simp)]
        exact ok_grd (by simp) (ok_some rfl)
      · (rw [if_neg (by simp), if_pos rfl]; exact ok_some (LR_er W I (by omega) _ _ (by omega)))
end
