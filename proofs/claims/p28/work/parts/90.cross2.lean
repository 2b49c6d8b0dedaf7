section
variable {σ : Hp} {a a' b : Ab} {n : Nat} {B : Int} {e : Nat}
/-- the member of dimension k that the reference asks for -/
theorem m_crC {d1 d2 i j : Int} (h1 : inD d1) (h2 : inD d2) (hne : d1 ≠ d2) {s : Hp} (V : Vw s a) : (if d1 ≠ 0 then if d2 ≠ 0 then grd (0 ≤ (0 : Int) ∧ (0 : Int) < 3) <| some (s 163 0) else some (s 164 ((12 * d2) + j)) else some (s 164 ((12 * d1) + i)) : Option (Int)) = some (crC a d1 d2 i j).1 ∧ (if d1 ≠ 1 then if d2 ≠ 1 then grd (0 ≤ (1 : Int) ∧ (1 : Int) < 3) <| some (s 163 1) else some (s 164 ((12 * d2) + j)) else some (s 164 ((12 * d1) + i)) : Option (Int)) = some (crC a d1 d2 i j).2.1 ∧ (if d1 ≠ 2 then if d2 ≠ 2 then grd (0 ≤ (2 : Int) ∧ (2 : Int) < 3) <| some (s 163 2) else some (s 164 ((12 * d2) + j)) else some (s 164 ((12 * d1) + i)) : Option (Int)) = some (crC a d1 d2 i j).2.2 := by
  have e163 : ∀ k : Int, s 163 k = a.chos k := fun k => V 163 k (by unfold vwP; omega)
  have e164 : ∀ k : Int, s 164 k = a.pick k := fun k => V 164 k (by unfold vwP; omega)
  simp only [e163, e164]
  unfold crC wD withD chC
  rcases h1 with rfl | rfl | rfl <;> rcases h2 with rfl | rfl | rfl <;> first | (exact absurd rfl hne) | (simp [grd])
theorem MS_0 {σ' : Hp} (V1 : Vw σ' a) (VV1 : ICV σ' a (B + 1)) : MS (hset σ' 129 50 0) a := by
  have v0 : 1 ≤ σ' 129 38 ∧ σ' 129 38 ≤ B + 1 ∧ ∀ c : Int, 0 ≤ c → c < 13824 → σ' 161 c ≤ σ' 129 38 := VV1 0
  exact MS_c (σ := hset σ' 129 50 0) ⟨Vw_50 V1 0, by rw [hset_ne (by omega), hs_nj (by omega)]; exact v0.2.2, ICV_50 VV1 0 (Int.le_refl _) 1⟩ (fun _ _ _ => rfl) (fun _ _ => rfl)
theorem op_cross (H : J σ a n B) (hB : B ≤ 100000) (d1 d2 m : Int) : OPT σ a n B e (fun code v b => TT a (((inD d1 ∧ inD d2) ∧ 0 ≤ m ∧ m < a.measures) ∧ d1 ≠ d2) (fun v b => b = a ∧ v = crO a m d1 d2 (a.picks d1).toNat) code v b) (f_L_cross σ e d1 d2 m) := by
  obtain ⟨W, K, V, I, VV, h1, h2⟩ := id H
  obtain ⟨R, IK, IW, I9⟩ := IC_r I
  by_cases h : (inD d1 ∧ inD d2) ∧ 0 ≤ m ∧ m < a.measures
  · obtain ⟨⟨hd1, hd2⟩, hm⟩ := h
    have b1 := inD_b hd1
    have b2 := inD_b hd2
    by_cases hne : d1 ≠ d2
    · refine ⟨0, crO a m d1 d2 (a.picks d1).toNat, a, ⟨W, K, h1, by omega⟩, (TT_0 (⟨rfl, rfl⟩)), ?_⟩
      · unfold f_L_cross
        refine L_ok W ?_
        unfold f_C_cross
        refine ok_eqb (nX_y hd1) ?_
        rw [if_pos rfl]
        refine ok_eqb (nX_y hd2) ?_
        rw [if_pos rfl]
        refine ok_eqb (nS_y W R.2.2.2.2.2.1 hm) ?_
        rw [if_pos rfl, if_pos hne]
        refine ok_call (c_begins W R (ICW_fok IW) I9 (by omega) m) ?_
        rintro s ⟨s1, s2, s3⟩
        have L := c_49 (n := n) W K hm.1 hm.2 hd1 hd2 (v1 := (0, dP d1)) (v4 := (0, dP d2)) rfl rfl zFuel 0 s (by have := pck_b W hd1; omega) (by have := pck_b W hd1; unfold zFuel; omega) s1
        refine ok_call L ?_
        rintro r ⟨r1, r2, r3⟩
        refine ok_some ⟨rfl, r1, fun q q1 q2 => ?_, ?_⟩
        · show r.2.2 q = σ q
          rw [r3.1 q (by omega), s2 q (by omega)]
        · have E : ∀ q : Nat, (q < 116 ∨ 124 ≤ q) → r.2.2 q = σ q := fun q hq => by rw [r3.1 q hq, s2 q (by omega)]
          refine IC_mk r2.1 (ICK_f (fun q q1 q2 => E q (by omega)) IK) (ICW_f (fun q hq => E q (by omega)) IW) ?_
          have e4 : r.2.2 116 4 = σ 116 4 + 1 := by rw [r3.2.1 4 (by omega), s3]
          exact ⟨by rw [e4]; have := I9.1; omega, by rw [e4]; have := I9.2.1; omega, r2.2.2.2.1⟩
    · refine opt_er H 2 0 (TT_e ⟨by omega, by omega⟩ (fun q => hne q.2)) ?_
      · unfold f_L_cross
        refine ok_eqb (v := (2, 0, σ)) ?_ ?_
        · unfold f_C_cross; apply ok_eq
          refine ok_eqb (nX_y hd1) ?_
          rw [if_pos rfl]
          refine ok_eqb (nX_y hd2) ?_
          rw [if_pos rfl]
          refine ok_eqb (nS_y W R.2.2.2.2.2.1 hm) ?_
          rw [if_pos rfl, if_neg hne]
          exact ok_some rfl
        · (rw [if_neg (by simp), if_neg (by simp), if_pos rfl]; exact ok_some (LR_er W I (by omega) _ _ (by omega)))
  · refine opt_er H 1 0 (TT_e ⟨by omega, by omega⟩ (fun q => h q.1)) ?_
    · unfold f_L_cross
      refine ok_eqb (v := (1, 0, σ)) ?_ ?_
      · unfold f_C_cross; apply ok_eq
        by_cases hd1 : inD d1
        · refine ok_eqb (nX_y hd1) ?_
          rw [if_pos rfl]
          by_cases hd2 : inD d2
          · refine ok_eqb (nX_y hd2) ?_
            rw [if_pos rfl]
            refine ok_eqb (nS_n R.2.2.2.2.2.1 (fun g => h ⟨⟨hd1, hd2⟩, g⟩)) ?_
            rw [if_neg (by omega)]
            exact ok_grd (by omega) (ok_some rfl)
          · refine ok_eqb (nX_n hd2) ?_
            rw [if_neg (by simp)]
            exact ok_grd (by simp) (ok_some rfl)
        · refine ok_eqb (nX_n hd1) ?_
          rw [if_neg (by simp)]
          exact ok_grd (by simp) (ok_some rfl)
      · (rw [if_neg (by simp), if_pos rfl]; exact ok_some (LR_er W I (by omega) _ _ (by omega)))
end
