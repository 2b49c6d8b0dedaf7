section
variable {σ : Hp} {a a' b : Ab} {n : Nat} {B : Int} {e : Nat} {d o : Int}
/-- a call that makes an object -/
def LRn (σ : Hp) (n e : Nat) (a' : Ab) (B' code v : Int) (r : Int × Nat × Nat × Hp) : Prop := r.2.1 ≤ n + 4 ∧ LR σ e a' r.2.1 B' code v (r.1, r.2.2.1, r.2.2.2)
theorem op_calc (H : J σ a (n % 1048576) B) (hB : B ≤ 100000) (hN : n % 1048576 + 4 < 1048576) (d x : Int) : ∃ (code v : Int) (a' : Ab) (n' : Nat), (n' = n ∨ n' = n + 4) ∧ gdA a' (B + 60) ∧ TT a False (fun v b => TKg a b d ∧ v = a.many d) code v a' ∧ Okk (f_L_calculate σ n e d x) (fun r => r.2.1 = n' ∧ LR σ e a' (n' % 1048576) (B + 60) code v (r.1, r.2.2.1, r.2.2.2)) := by
  obtain ⟨W, K, V, I, VV, h1, h2⟩ := id H
  obtain ⟨R, IK, IW, I9⟩ := IC_r I
  have k0 : wrdOk a 36 := K 0
  have l0 : 0 ≤ a.len 36 ∧ a.len 36 ≤ 10 := ⟨k0.1, k0.2.1⟩
  obtain ⟨g1, g2, g3⟩ : fPt (n % 1048576) (σ 0 6) ∧ fHd σ a (σ 0 6).toNat 36 ∧ σ (σ 0 6).toNat 1 = pilF a 36 (a.len 36).toNat := IW 0
  have P0 := (fPt_b g1).1
  have er : ∀ code : Int, (1 ≤ code ∧ code ≤ 3) → Okk (f_L_calculate σ n e d x) (fun r => r = (code, n, e + 1, σ)) → ∃ (code v : Int) (a' : Ab) (n' : Nat), (n' = n ∨ n' = n + 4) ∧ gdA a' (B + 60) ∧ TT a False (fun v b => TKg a b d ∧ v = a.many d) code v a' ∧ Okk (f_L_calculate σ n e d x) (fun r => r.2.1 = n' ∧ LR σ e a' (n' % 1048576) (B + 60) code v (r.1, r.2.2.1, r.2.2.2)) := by
    intro code hc hL
    refine ⟨code, 0, a, n, Or.inl rfl, ⟨W, K, h1, by omega⟩, TT_e hc (fun q => q), ok_mono hL ?_⟩
    rintro r rfl
    exact ⟨rfl, LR_er W I (by omega) _ _ (by omega)⟩
  by_cases hd : inD d
  · have hd' := inD_b hd
    have mb := many_b W hd
    have e0 : σ (dP d) 0 = a.many d := icr_d R hd 0
    -- the reference's first loop
    by_cases hx : 0 ≤ x ∧ x ≤ 100
    · by_cases hj : pilF a 36 (a.len 36).toNat = 1 ∧ lkA a (a.many d) ∧ a.many d < 12
      · obtain ⟨j1, j2, j3⟩ := hj
        have C : caC a d x := ⟨hd, j3, hx.1, hx.2⟩
        have W' := ca_W W C
        have eh : Ab.hits (caA a d x) = a.hits := ca_j (by omega)
        refine ⟨0, a.many d, caA a d x, n + 4, Or.inr rfl, ⟨W', ca_K W K C j1 j2, by rw [eh]; exact h1, by rw [eh]; omega⟩, TT_0 ⟨⟨fun j _ => ca_many j, ca_j (by omega), eh⟩, rfl⟩, ?_⟩
        · have cc := c_calc W K I C hN (B' := B + 60) (by omega) (t := hset (hset (hset (hset (hset σ (dP d + 5) (a.many d) 2) (dP d) 0 (a.many d + 1)) (dP d + 11) (a.many d) (σ 0 6)) (dP d + 9) (a.many d) x) (dP d + 15) (a.many d) 1) rfl
          unfold f_L_calculate
          refine ok_eqb (v := (0, a.many d, n + 4, hset (hset (zFormula (hset (hset (hset (hset (hset σ (dP d + 5) (a.many d) 2) (dP d) 0 (a.many d + 1)) (dP d + 11) (a.many d) (σ 0 6)) (dP d + 9) (a.many d) x) (dP d + 15) (a.many d) 1) (n % 1048576)) 0 6 ((n % 1048576 : Nat) : Int)) 108 0 0)) ?_ ?_
          · unfold f_C_calculate; apply ok_eq
            refine ok_eqb (nX_y hd) ?_
            rw [if_pos rfl]
            refine ok_eqb (nR_y hx) ?_
            rw [if_pos rfl, g3, if_neg (by omega)]
            dsimp only
            rw [e0]
            refine ok_grd P0 (ok_bind (ok_grd P0 (ok_eqb (c_looks K IW (a.many d)) ?_)))
            rw [bI_f (fun z => z j2), if_neg (by omega), if_neg (by omega)]
            refine ok_some (ok_eqb need1 ?_)
            rw [if_pos rfl]
            refine ok_eqb (c_addCalc W R hd j3 P0 x) ?_
            dsimp only
            refine ok_grd hN (ok_grd (by omega) (ok_eqb (e_K_dropAll _) (ok_some rfl)))
          · dsimp only
            rw [if_pos rfl]
            refine ok_grd (by omega) (ok_some ⟨rfl, rfl, fun _ => by dsimp only; exact hs_eq, Nat.le_succ _, fun q q1 q2 => ?_, ?_⟩)
            · dsimp only; rw [hset_ne (by omega)]; exact cc.1 q q1 q2
            · rw [show (n + 4) % 1048576 = n % 1048576 + 4 by omega]; exact IC_m W' (fun q hq => hset_ne (by omega)) (Int.le_refl _) cc.2
      · refine er 3 (by omega) ?_
        · unfold f_L_calculate
          refine ok_eqb (v := (3, 0, n, σ)) ?_ ?_
          · unfold f_C_calculate; apply ok_eq
            refine ok_eqb (nX_y hd) ?_
            rw [if_pos rfl]
            refine ok_eqb (nR_y hx) ?_
            rw [if_pos rfl, g3]
            dsimp only
            rw [e0]
            refine ok_grd P0 (ok_call (P := fun j => j = 0) ?_ ?_)
            · refine ok_ite (fun _ => ok_some rfl) (fun q1 => ok_grd P0 (ok_eqb (c_looks K IW (a.many d)) (ok_ite (fun _ => ok_some rfl) (fun q2 => ok_ite (fun _ => ok_some rfl) (fun q3 => absurd ⟨by omega, ?_, by omega⟩ hj)))))
              exact Classical.byContradiction (fun z => q2 (by rw [bI_t z]; omega))
            rintro j rfl
            refine ok_eqb need0 ?_
            rw [if_neg (by omega)]
            exact ok_grd (by omega) (ok_some rfl)
          · dsimp only
            rw [if_neg (by omega), if_neg (by omega), if_neg (by omega), if_pos rfl]; exact ok_some rfl
    · refine er 2 (by omega) ?_
      · unfold f_L_calculate
        refine ok_eqb (v := (2, 0, n, σ)) ?_ ?_
        · unfold f_C_calculate; apply ok_eq
          refine ok_eqb (nX_y hd) ?_
          rw [if_pos rfl]
          refine ok_eqb (nR_n hx) ?_
          rw [if_neg (by omega)]
          exact ok_grd (by omega) (ok_some rfl)
        · dsimp only
          rw [if_neg (by omega), if_neg (by omega), if_pos rfl]; exact ok_some rfl
  · refine er 1 (by omega) ?_
    · unfold f_L_calculate
      refine ok_eqb (v := (1, 0, n, σ)) ?_ ?_
      · unfold f_C_calculate; apply ok_eq
        refine ok_eqb (nX_n hd) ?_
        rw [if_neg (by simp)]
        exact ok_grd (by simp) (ok_some rfl)
      · dsimp only
        rw [if_neg (by omega), if_pos rfl]; exact ok_some rfl
end
