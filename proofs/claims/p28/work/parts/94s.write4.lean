section
variable {σ : Hp} {a a' b : Ab} {n : Nat} {B : Int} {e : Nat} {t x y m v h : Int}
/-- only what is scratch differs -/
def scr (σ s : Hp) : Prop := ∀ q : Nat, q < 167 ∨ 169 < q → s q = σ q
theorem Vw_scr {s : Hp} (V : Vw σ a) (H : scr σ s) : Vw s a := fun q j hq => by
  have : q < 167 := by unfold vwP at hq; omega
  rw [H q (by omega)]; exact V q j hq
theorem ior_1 {z : Int} (hz : 0 ≤ z ∧ z ≤ 1) : ior 1 z ≠ 0 := by
  have : z = 0 ∨ z = 1 := by omega
  rcases this with q | q <;> rw [q]
  · rw [ior_00.2.2.1]; omega
  · rw [ior_00.2.2.2]; omega
/-- what is thrown, where the class's own cells stand -/
theorem L_er3 {code : Nat} (W : WFA a) (I : IC σ a n B) (hc : code = 3) {x' : Option (Nat × Int × Hp)} (C : Okk x' fun r => r.1 = code ∧ wsc σ r.2.2) : Okk (x'.bind fun v1 => if v1.1 = 0 then grd (0 ≤ (0 : Int) ∧ (0 : Int) < 1) <| some (0, e, (hset v1.2.2 170 0 v1.2.1)) else if v1.1 = 1 then some (1, (e + 1), v1.2.2) else if v1.1 = 2 then some (2, (e + 1), v1.2.2) else if v1.1 = 3 then some (3, (e + 1), v1.2.2) else none) (LR σ e a n (B + 60) 3 0) := by
  refine ok_call C ?_
  rintro r ⟨r1, r2⟩
  rw [if_neg (by omega), if_neg (by omega), if_neg (by omega), if_pos (by omega)]
  exact ok_some ⟨rfl, fun g => absurd g (by omega), Nat.le_refl _, fun q q1 q2 => r2.1 q (by omega), IC_m W (fun _ _ => rfl) (by omega) (IC_w W I r2)⟩
theorem op_write (H : J σ a n B) (hB : B ≤ 100000) (t x y m v h : Int) : OPT σ a n B e (fun code w b => TT a False (fun w b => TKs a b ∧ 0 ≤ w) code w b) (f_L_write σ e t x y m v h) := by
  obtain ⟨W, K, V, I, VV, h1, h2⟩ := id H
  obtain ⟨R, IK, IW, I9⟩ := IC_r I
  by_cases T : mem4 a t x y m
  · by_cases G : wRg v h
    · by_cases O : wOk a t x y m
      · by_cases O1 : wOne a m t x y
        · by_cases N0 : wN a m t x y = 0
          · by_cases hp : (isP a 0 t ∧ isP a 1 x ∧ isP a 2 y) ∧ a.facts < 50
            · have NF := w_newF W T G O N0 hp
              have Wb := drA_W (ad_W W NF) t x y m
              have Kb : WFW (drA (addA a t x y m v) t x y m) := drA_K (WFW_s K ad_FB.2.2.1 ad_FB.1.1) _ _ _ _
              have hh : Ab.hits (drA (addA a t x y m v) t x y m) = a.hits := sA_h.2.trans ad_FB.2.2.2.2.2.2.2
              refine ⟨0, 1, drA (addA a t x y m v) t x y m, ⟨Wb, Kb, by rw [hh]; exact h1, by rw [hh]; omega⟩, (TT_0 (⟨TKs_tr TKs_ad TKs_dr, by omega⟩)), ?_⟩
              unfold f_L_write
              exact L_ok Wb (c_w_add H T G O N0 hp)
            · refine opt_er H 3 0 (TT_e ⟨by omega, by omega⟩ (fun q => q)) ?_
              unfold f_L_write
              exact L_er3 W I rfl (c_w_pl H T G O N0 hp)
          · have N0' : 0 < wN a m t x y := by omega
            by_cases hi : wIn a m t x y v h
            · have PW := pA_W W K (sp := wS a m t x y) (wN a m t x y) hi
              refine ⟨0, pC a (wS a m t x y) (shr (fun i => a.fv (wS a m t x y i)) (wN a m t x y) v h) (wN a m t x y), pA a (wS a m t x y) (shr (fun i => a.fv (wS a m t x y i)) (wN a m t x y) v h) (wN a m t x y), ⟨PW.1, PW.2.1, by rw [PW.2.2.1]; exact h1, by rw [PW.2.2.1]; omega⟩, (TT_0 (⟨TKs_pA _ _ _ _, (pC_b _ _ _).1⟩)), ?_⟩
              unfold f_L_write
              exact L_ok PW.1 (c_w_set H T G O O1 N0' hi)
            · refine opt_er H 3 0 (TT_e ⟨by omega, by omega⟩ (fun q => q)) ?_
              unfold f_L_write
              exact L_er3 W I rfl (c_w_rng H T G O O1 N0' hi)
        · refine opt_er H 3 0 (TT_e ⟨by omega, by omega⟩ (fun q => q)) ?_
          unfold f_L_write
          exact L_er3 W I rfl (c_w_bad H T G O O1)
      · refine opt_er H 3 0 (TT_e ⟨by omega, by omega⟩ (fun q => q)) ?_
        unfold f_L_write
        exact L_er3 W I rfl ⟨_, c_w_3 H T G O, rfl, fun _ _ => rfl, rfl⟩
    · refine opt_er H 2 0 (TT_e ⟨by omega, by omega⟩ (fun q => q)) ?_
      unfold f_L_write
      refine ok_eqb (v := (2, 0, σ)) ?_ ?_
      · unfold f_C_write; apply ok_eq
        refine ok_eqb (nC_y' W R T) ?_
        rw [if_pos rfl]
        by_cases G1 : 0 ≤ v ∧ v ≤ 1000000
        · refine ok_eqb (nR_y G1) ?_
          rw [if_pos rfl]
          refine ok_eqb (nR_n (fun w => G ⟨G1, w⟩)) ?_
          rw [if_neg (by omega)]
          exact ok_grd (by omega) (ok_some rfl)
        · refine ok_eqb (nR_n G1) ?_
          rw [if_neg (by omega)]
          exact ok_grd (by omega) (ok_some rfl)
      · (rw [if_neg (by simp), if_neg (by simp), if_pos rfl]; exact ok_some (LR_er W I (by omega) _ _ (by omega)))
  · refine opt_er H 1 0 (TT_e ⟨by omega, by omega⟩ (fun q => q)) ?_
    unfold f_L_write
    refine ok_eqb (v := (1, 0, σ)) ?_ ?_
    · unfold f_C_write; apply ok_eq
      refine ok_eqb (nC_n' W R T) ?_
      rw [if_neg (by simp)]
      exact ok_grd (by simp) (ok_some rfl)
    · (rw [if_neg (by simp), if_pos rfl]; exact ok_some (LR_er W I (by omega) _ _ (by omega)))
end
