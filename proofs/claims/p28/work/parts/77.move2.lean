section
variable {σ : Hp} {a a' b : Ab} {n : Nat} {B : Int} {e : Nat}
theorem ok_call2 {α β γ : Type} {x : Option α} {f : α → Option β} {g : β → Option γ} {P : β → Prop} {Q : γ → Prop} (H : Okk (x.bind f) P) (K : ∀ b, P b → Okk (g b) Q) : Okk (x.bind fun v => (f v).bind g) Q := by
  cases x with
  | none => obtain ⟨a, h, _⟩ := H; cases h
  | some v =>
    show Okk ((f v).bind g) Q
    exact ok_call (show Okk (f v) P from H) K
theorem r_plain (W : WFA a) (R : ICR σ a) {d m : Int} (hd : inD d) (ht : thr a d m) : f_D_isPlain σ (dP d) m = some (bI (isP a d m)) := by
  have e0 : σ (dP d) 0 = a.many d := icr_d R hd 0
  have e5 : σ (dP d + 5) m = a.kind (12 * d + m) := (show ∀ m : Int, thr a d m → σ (dP d + 5) m = a.kind (12 * d + m) from icr_d R hd 3) m ht
  have m12 := thr12 W hd ht
  rw [e_D_isPlain, e0, e5]
  refine congrArg some (bI_iff ⟨fun g => g.2.2.2, fun g => ⟨m12.1, ht.2, m12.2, g⟩⟩)
theorem nmv_12 (W : WFA a) : ∀ k : Nat, (k : Int) ≤ a.moves → nmv a 1 k + nmv a 2 k = k
  | 0, _ => rfl
  | k + 1, h => by
    have h7 : 0 ≤ a.moves ∧ a.moves ≤ 10 ∧ ∀ k : Int, 0 ≤ k → k < a.moves → (a.vd k = 1 ∨ a.vd k = 2) ∧ _ := W 7
    have ih := nmv_12 W k (by omega)
    rcases (h7.2.2 k (by omega) (by omega)).1 with g | g
    · rw [nmv_s g, nmv_n (d := 2) (by omega)]; omega
    · rw [nmv_s g, nmv_n (d := 1) (by omega)]; omega
theorem e_movesTold (W : WFA a) (R : ICR σ a) : f_S_movesTold σ = some a.moves := by
  have h7 : 0 ≤ a.moves ∧ a.moves ≤ 10 ∧ _ := W 7
  have g1 : σ 33 0 = nmv a 1 a.moves.toNat ∧ _ := R.2.1 13
  have g2 : σ 63 0 = nmv a 2 a.moves.toNat ∧ _ := R.2.2.1 13
  have s := nmv_12 W a.moves.toNat (by omega)
  unfold f_S_movesTold
  apply ok_eq
  rw [g1.1, g2.1]
  exact ok_grd (by (first | omega | (unfold r32; omega) | (unfold r64; omega) | (simp only [r32, r64] at *; omega))) (ok_some (by omega))
/-- the class's checks of a move -/
def mvJ (a : Ab) (d m p t : Int) : Prop := mvPl a d m p t ∧ p < m ∧ a.moves < 10
theorem op_move (H : J σ a n B) (hB : B ≤ 100000) (d m p t : Int) : OPT σ a n B e (fun code v b => TT a False (fun v b => TKs a b ∧ -1 ≤ v) code v b) (f_L_move σ e d m p t) := by
  obtain ⟨W, K, V, I, VV, h1, h2⟩ := id H
  obtain ⟨R, IK, IW, I9⟩ := IC_r I
  have h7 : 0 ≤ a.moves ∧ a.moves ≤ 10 ∧ _ := W 7
  -- the reference's first question
  by_cases h : mvOk a d m p t
  · obtain ⟨hd12, ht1, ht2, ht3, m0⟩ := id h
    have hd : inD d := by unfold inD; omega
    have m12 := thr12 W hd ht1
    have p12 := thr12 W hd ht2
    have t12 := thr12 W iD0 ht3
    have hdp := dP_b hd
    -- what the reference asks next
    by_cases hj : mvJ a d m p t
    · obtain ⟨hpl, hpm, hmv⟩ := hj
      have W' := mv_W W hd12 ht1 hpl.1 hpl.2.1 ht2.1 hpm ht3 hpl.2.2 hmv
      have eh : Ab.hits (mvA a d m p t) = a.hits := mv_j (by omega) (by omega)
      refine ⟨0, now a d m, mvA a d m p t, ⟨W', WFW_g K mv_G mv_D, by rw [eh]; exact h1, by rw [eh]; omega⟩, (TT_0 (⟨⟨fun _ _ => congrFun (mv_q (by omega) (by omega)) _, mv_j (by omega) (by omega), eh⟩, by have := ht1.1; have := (now_b W hd ht1 hpl.1 (by omega)).1; omega⟩)), ?_⟩
      · unfold f_L_move
        refine L_ok W' ?_
        unfold f_C_move
        refine ok_eqb (nX_y hd) ?_
        rw [if_pos rfl]
        refine ok_eqb (nM_y W hd (icr_d R hd 0) ht1) ?_
        rw [if_pos rfl]
        refine ok_eqb (nM_y W hd (icr_d R hd 0) ht2) ?_
        rw [if_pos rfl]
        refine ok_eqb (nM_y W iD0 (R.1 0) ht3) ?_
        rw [if_pos rfl, if_neg (show ¬ d = 0 by omega), if_pos m0]
        refine ok_eqb (r_plain W R hd ht1) ?_
        rw [bI_t hpl.1, if_neg (by omega)]
        refine ok_bind (ok_eqb (r_plain W R hd ht2) ?_)
        rw [bI_t hpl.2.1, if_neg (by omega)]
        refine ok_eqb (r_plain W R iD0 ht3) ?_
        rw [bI_t hpl.2.2, if_neg (by omega)]
        refine ok_some (ok_eqb need1 ?_)
        rw [if_pos rfl, if_neg (show ¬ m ≤ p by omega)]
        refine ok_bind (ok_eqb (e_movesTold W R) ?_)
        rw [if_neg (by omega)]
        refine ok_some (ok_eqb need1 ?_)
        rw [if_pos rfl]
        have e0 : σ (dP d) 0 = a.many d := icr_d R hd 0
        have e5 : σ (dP d + 5) m = a.kind (12 * d + m) := (show ∀ m : Int, thr a d m → σ (dP d + 5) m = a.kind (12 * d + m) from icr_d R hd 3) m ht1
        have e13 : σ (dP d + 13) m = now a d m := by
          have := (show ∀ m : Int, thr a d m → isP a d m → σ (dP d + 13) m = if m = 0 then -1 else now a d m from icr_d R hd 8) m ht1 hpl.1
          rw [this, if_neg m0]
        refine ok_eqb (v := now a d m) ?_ ?_
        · rw [e_D_parentOf, if_pos ⟨m12.1, by rw [e0]; exact ht1.2, m12.2, by rw [e5]; exact hpl.1⟩, e13]
        refine ok_call (c_move W I h hpl hpm hmv (B' := B + 60) (by omega)) (fun s hs => ok_call hs ?_)
        rintro u ⟨u1, u2⟩
        refine ok_eqb (e_K_dropAll _) (ok_some ⟨rfl, rfl, fun q q1 q2 => ?_, u2⟩)
        dsimp only; rw [hset_ne (by omega)]; exact u1 q (by omega)
    · refine opt_er H 2 0 (TT_e ⟨by omega, by omega⟩ (fun q => q)) ?_
      · unfold f_L_move
        refine ok_eqb (v := (3, 0, σ)) ?_ ?_
        · unfold f_C_move; apply ok_eq
          refine ok_eqb (nX_y hd) ?_
          rw [if_pos rfl]
          refine ok_eqb (nM_y W hd (icr_d R hd 0) ht1) ?_
          rw [if_pos rfl]
          refine ok_eqb (nM_y W hd (icr_d R hd 0) ht2) ?_
          rw [if_pos rfl]
          refine ok_eqb (nM_y W iD0 (R.1 0) ht3) ?_
          rw [if_pos rfl, if_neg (show ¬ d = 0 by omega), if_pos m0]
          refine ok_eqb (r_plain W R hd ht1) ?_
          by_cases g1 : isP a d m
          · rw [bI_t g1, if_neg (by omega)]
            refine ok_bind (ok_eqb (r_plain W R hd ht2) ?_)
            by_cases g2 : isP a d p
            · rw [bI_t g2, if_neg (by omega)]
              refine ok_eqb (r_plain W R iD0 ht3) ?_
              by_cases g3 : isP a 0 t
              · rw [bI_t g3, if_neg (by omega)]
                refine ok_some (ok_eqb need1 ?_)
                rw [if_pos rfl]
                refine ok_call (P := fun j => j = 0) ?_ ?_
                · refine ok_ite (fun _ => ok_some rfl) (fun g4 => ok_eqb (e_movesTold W R) ?_)
                  rw [if_pos (by have : ¬ a.moves < 10 := fun q => hj ⟨⟨g1, g2, g3⟩, by omega, q⟩; omega)]
                  exact ok_some rfl
                rintro j rfl
                refine ok_eqb need0 ?_
                rw [if_neg (by omega)]
                exact ok_grd (by omega) (ok_some rfl)
              · rw [bI_f g3, if_pos rfl]
                refine ok_some (ok_eqb need0 ?_)
                rw [if_neg (by omega)]
                exact ok_grd (by omega) (ok_some rfl)
            · rw [bI_f g2, if_pos rfl]
              refine ok_some (ok_eqb need0 ?_)
              rw [if_neg (by omega)]
              exact ok_grd (by omega) (ok_some rfl)
          · rw [bI_f g1, if_pos rfl]
            refine ok_bind (ok_some (ok_eqb need0 ?_))
            rw [if_neg (by omega)]
            exact ok_grd (by omega) (ok_some rfl)
        · (rw [if_neg (by simp), if_neg (by simp), if_pos rfl]; exact ok_some (LR_er W I (by omega) _ _ (by omega)))
  · refine opt_er H 1 0 (TT_e ⟨by omega, by omega⟩ (fun q => q)) ?_
    · unfold f_L_move
      refine ok_eqb (v := (1, 0, σ)) ?_ ?_
      · unfold f_C_move; apply ok_eq
        by_cases hd : inD d
        · refine ok_eqb (nX_y hd) ?_
          rw [if_pos rfl]
          by_cases g1 : thr a d m
          · refine ok_eqb (nM_y W hd (icr_d R hd 0) g1) ?_
            rw [if_pos rfl]
            by_cases g2 : thr a d p
            · refine ok_eqb (nM_y W hd (icr_d R hd 0) g2) ?_
              rw [if_pos rfl]
              by_cases g3 : thr a 0 t
              · refine ok_eqb (nM_y W iD0 (R.1 0) g3) ?_
                rw [if_pos rfl]
                refine ok_ite (fun _ => ok_some rfl) (fun g4 => ?_)
                by_cases g5 : m ≠ 0
                · exact absurd ⟨by have := inD_b hd; omega, g1, g2, g3, g5⟩ h
                · rw [if_neg g5]; exact ok_some rfl
              · refine ok_eqb (nM_n (R.1 0) g3) ?_
                rw [if_neg (by omega)]
                exact ok_grd (by omega) (ok_some rfl)
            · refine ok_eqb (nM_n (icr_d R hd 0) g2) ?_
              rw [if_neg (by omega)]
              exact ok_grd (by omega) (ok_some rfl)
          · refine ok_eqb (nM_n (icr_d R hd 0) g1) ?_
            rw [if_neg (by omega)]
            exact ok_grd (by omega) (ok_some rfl)
        · refine ok_eqb (nX_n hd) ?_
          rw [if_neg (by simp)]
          exact ok_grd (by simp) (ok_some rfl)
      · (rw [if_neg (by simp), if_pos rfl]; exact ok_some (LR_er W I (by omega) _ _ (by omega)))
end
