section
variable {σ : Hp} {a a' b : Ab} {n : Nat} {B : Int} {e : Nat}
/-- the member of dimension k that the reference asks for -/
theorem m_crC {d1 d2 i j : Int} (h1 : inD d1) (h2 : inD d2) (hne : d1 ≠ d2) {s : Hp} (V : Vw s a) : (if d1 ≠ 0 then if d2 ≠ 0 then grd (0 ≤ (0 : Int) ∧ (0 : Int) < 3) <| some (s 163 0) else some (s 164 ((12 * d2) + j)) else some (s 164 ((12 * d1) + i)) : Option (Int)) = some (crC a d1 d2 i j).1 ∧ (if d1 ≠ 1 then if d2 ≠ 1 then grd (0 ≤ (1 : Int) ∧ (1 : Int) < 3) <| some (s 163 1) else some (s 164 ((12 * d2) + j)) else some (s 164 ((12 * d1) + i)) : Option (Int)) = some (crC a d1 d2 i j).2.1 ∧ (if d1 ≠ 2 then if d2 ≠ 2 then grd (0 ≤ (2 : Int) ∧ (2 : Int) < 3) <| some (s 163 2) else some (s 164 ((12 * d2) + j)) else some (s 164 ((12 * d1) + i)) : Option (Int)) = some (crC a d1 d2 i j).2.2 := by
  have e163 : ∀ k : Int, s 163 k = a.chos k := fun k => V 163 k (by unfold vwP; omega)
  have e164 : ∀ k : Int, s 164 k = a.pick k := fun k => V 164 k (by unfold vwP; omega)
  simp only [e163, e164]
  unfold crC wD withD chC
  rcases h1 with rfl | rfl | rfl <;> rcases h2 with rfl | rfl | rfl <;> first | (exact absurd rfl hne) | (simp [grd])
theorem m_79 (W : WFA a) (K : WFW a) {m : Int} (m0 : 0 ≤ m) (m1 : m < a.measures) {d1 d2 i : Int} (h1 : inD d1) (h2 : inD d2) (hne : d1 ≠ d2) (i0 : 0 ≤ i) (i1 : i < a.picks d1) {y0 : Int} (y00 : 0 ≤ y0 ∧ y0 ≤ 1000) : ∀ (F j : Nat) (s : Hp), (j : Int) ≤ a.picks d2 → a.picks d2 - j < F → MS s a → s 129 46 = 0 → Okk (f_M_cross_79 d1 d2 m i F (y0 + crI a m d1 d2 i j) j s) fun r => r.1 = y0 + crI a m d1 d2 i (a.picks d2).toNat ∧ MS r.2.2 a ∧ vch 0 s r.2.2 ∧ r.2.2 129 46 = 0 := by
  have pb := pck_b W h2
  have pb1 := pck_b W h1
  have hd1 := inD_b h1
  have hd2 := inD_b h2
  intro F
  induction F with
  | zero => intro j s j1 hF; omega
  | succ F ih =>
    intro j s j1 hF M hb
    have g2 : s 165 d2 = a.picks d2 := M.1 165 d2 (by unfold vwP; omega)
    rw [f_M_cross_79, g2]
    refine ok_grd (by omega) (ok_ite (fun g => ok_some ⟨by rw [show (a.picks d2).toNat = j by omega], M, vch_r _ _, hb⟩) (fun g => ?_))
    have ht := pck W h2 (i := j) (by omega) (by omega)
    have c2 : cin3 a (crC a d1 d2 i j) := wD_in h2 ht (wD_in h1 (pck W h1 i0 i1) (chC_in W))
    have cb := crI_b a m d1 d2 i j
    have cc := m_crC (i := i) (j := j) h1 h2 hne M.1
    refine ok_grd (by (first | omega | (unfold r32; omega) | (unfold r64; omega) | (simp only [r32, r64] at *; omega))) (ok_grd (by (first | omega | (unfold r32; omega) | (unfold r64; omega) | (simp only [r32, r64] at *; omega))) (ok_grd (by omega) (ok_grd (by (first | omega | (unfold r32; omega) | (unfold r64; omega) | (simp only [r32, r64] at *; omega))) (ok_grd (by (first | omega | (unfold r32; omega) | (unfold r64; omega) | (simp only [r32, r64] at *; omega))) (ok_grd (by omega) (ok_eqb cc.1 (ok_eqb cc.2.1 (ok_eqb cc.2.2 ?_))))))))
    refine ok_call (e_M_ask W K m0 m1 c2 M hb) ?_
    rintro r ⟨r1, r2, r3, r4⟩
    have e1 : r.1 = aV a m (crC a d1 d2 i j) := r1
    have es : crI a m d1 d2 i (j + 1) = crI a m d1 d2 i j + if aV a m (crC a d1 d2 i j) = zNO then 0 else 1 := rfl
    refine ok_call (P := fun z => z = if aV a m (crC a d1 d2 i j) = zNO then 0 else 1) ?_ ?_
    · rw [e1]
      refine ok_ite (fun q => ok_some ?_) (fun q => ok_some ?_)
      · rw [if_pos (show aV a m (crC a d1 d2 i j) = zNO from lcm_eq.mp q)]
      · rw [if_neg (show ¬ aV a m (crC a d1 d2 i j) = zNO from fun z => q (lcm_eq.mpr z))]
    · rintro z hz
      have z01 : 0 ≤ z ∧ z ≤ 1 := by
        rw [hz]
        by_cases q : aV a m (crC a d1 d2 i j) = zNO
        · rw [if_pos q]; omega
        · rw [if_neg q]; omega
      refine ok_grd (by (first | omega | (unfold r32; omega) | (unfold r64; omega) | (simp only [r32, r64] at *; omega))) (ok_grd (by (first | omega | (unfold r32; omega) | (unfold r64; omega) | (simp only [r32, r64] at *; omega))) ?_)
      rw [show y0 + crI a m d1 d2 i j + z = y0 + crI a m d1 d2 i (j + 1) by rw [es, ← hz]; omega, show ((j : Int) + 1) = ((j + 1 : Nat) : Int) by omega]
      exact ok_mono (ih (j + 1) r.2 (by omega) (by omega) r2 r4) (fun q hq => ⟨hq.1, hq.2.1, vch_t r3 hq.2.2.1 (Int.le_refl _), hq.2.2.2⟩)
theorem m_65 (W : WFA a) (K : WFW a) {m : Int} (m0 : 0 ≤ m) (m1 : m < a.measures) {d1 d2 : Int} (h1 : inD d1) (h2 : inD d2) (hne : d1 ≠ d2) : ∀ (F i : Nat) (s : Hp), (i : Int) ≤ a.picks d1 → a.picks d1 - i < F → MS s a → s 129 46 = 0 → Okk (f_M_cross_65 d1 d2 m F (crO a m d1 d2 i) i s) fun r => r.1 = crO a m d1 d2 (a.picks d1).toNat ∧ MS r.2.2 a ∧ vch 0 s r.2.2 ∧ r.2.2 129 46 = 0 := by
  have pb1 := pck_b W h1
  have pb2 := pck_b W h2
  have hd1 := inD_b h1
  intro F
  induction F with
  | zero => intro i s i1 hF; omega
  | succ F ih =>
    intro i s i1 hF M hb
    have g2 : s 165 d1 = a.picks d1 := M.1 165 d1 (by unfold vwP; omega)
    rw [f_M_cross_65, g2]
    refine ok_grd (by omega) (ok_ite (fun g => ok_some ⟨by rw [show (a.picks d1).toNat = i by omega], M, vch_r _ _, hb⟩) (fun g => ?_))
    have ob := crO_b a m d1 d2 pb2.2 i
    have L := m_79 W K m0 m1 h1 h2 hne (i := i) (by omega) (by omega) (y0 := crO a m d1 d2 i) (by omega) zFuel 0 s (by omega) (by unfold zFuel; omega) M hb
    have e0 : crO a m d1 d2 i + crI a m d1 d2 i 0 = crO a m d1 d2 i := by show crO a m d1 d2 i + 0 = _; omega
    rw [e0] at L
    refine ok_call L ?_
    rintro r ⟨r1, r2, r3, r4⟩
    refine ok_grd (by (first | omega | (unfold r32; omega) | (unfold r64; omega) | (simp only [r32, r64] at *; omega))) ?_
    rw [r1, show ((i : Int) + 1) = ((i + 1 : Nat) : Int) by omega]
    exact ok_mono (ih (i + 1) r.2.2 (by omega) (by omega) r2 r4) (fun q hq => ⟨hq.1, hq.2.1, vch_t r3 hq.2.2.1 (Int.le_refl _), hq.2.2.2⟩)
/-- what the reference leaves, where it only looked -/
theorem MR_ms {σ' s : Hp} {a' : Ab} (VV1 : ICV σ' a (B + 1)) {t : Hp} (ht : t = hset σ' 129 50 0) (r2 : MS s a') (r3 : vch 0 t s) (r4 : s 129 46 = 0) (v : Int) : MR σ' a' (B + 61) 0 v (v, s) := by
  have v0 : 1 ≤ σ' 129 38 ∧ σ' 129 38 ≤ B + 1 ∧ ∀ c : Int, 0 ≤ c → c < 13824 → σ' 161 c ≤ σ' 129 38 := VV1 0
  refine ⟨?_, fun _ => rfl, fun q hq => ?_, r2.1, fun k => ?_⟩
  · show s 129 50 = 0
    rw [r3.2.1 50 (by omega), ht, hs_eq]
  · show s q = σ' q
    rw [r3.1 q (by omega) (by omega) (by omega) (by omega), ht, hset_ne (by omega)]
  · have e38 : s 129 38 = σ' 129 38 := by rw [r3.2.1 38 (by omega), ht, hs_nj (by omega)]
    match k with
    | 0 => exact (⟨by rw [e38]; omega, by rw [e38]; omega, r2.2.1⟩ : 1 ≤ s 129 38 ∧ s 129 38 ≤ B + 61 ∧ ∀ c : Int, 0 ≤ c → c < 13824 → s 161 c ≤ s 129 38)
    | 1 => exact r2.2.2
    | 2 => exact r4
    | _ + 3 => trivial
theorem MS_0 {σ' : Hp} (V1 : Vw σ' a) (VV1 : ICV σ' a (B + 1)) : MS (hset σ' 129 50 0) a := by
  have v0 : 1 ≤ σ' 129 38 ∧ σ' 129 38 ≤ B + 1 ∧ ∀ c : Int, 0 ≤ c → c < 13824 → σ' 161 c ≤ σ' 129 38 := VV1 0
  exact MS_c (σ := hset σ' 129 50 0) ⟨Vw_50 V1 0, by rw [hset_ne (by omega), hs_nj (by omega)]; exact v0.2.2, ICV_50 VV1 0 (Int.le_refl _) 1⟩ (fun _ _ _ => rfl) (fun _ _ => rfl)
theorem op_cross (H : J σ a n B) (hB : B ≤ 100000) (d1 d2 m : Int) : OPT σ a n B e (f_L_cross σ e d1 d2 m) (fun σ' => f_M_cross σ' d1 d2 m) := by
  obtain ⟨W, K, V, I, VV, h1, h2⟩ := id H
  obtain ⟨R, IK, IW, I9⟩ := IC_r I
  by_cases h : (inD d1 ∧ inD d2) ∧ 0 ≤ m ∧ m < a.measures
  · obtain ⟨⟨hd1, hd2⟩, hm⟩ := h
    have b1 := inD_b hd1
    have b2 := inD_b hd2
    by_cases hne : d1 ≠ d2
    · refine ⟨0, crO a m d1 d2 (a.picks d1).toNat, a, ⟨W, K, h1, by omega⟩, ?_, ?_⟩
      · unfold f_L_cross
        refine L_ok W ?_
        unfold f_C_cross
        refine ok_eqb (nX_y hd1) ?_
        rw [if_pos rfl]
        refine ok_eqb (nX_y hd2) ?_
        rw [if_pos rfl]
        refine ok_eqb (nS_y W R.2.2.2.2.2.1 hm) ?_
        rw [if_pos rfl, if_pos hne]
        refine ok_call (c_begins W R (ICW_fok IW) I9 (by omega) m) ?_
        rintro s ⟨s1, s2, s3⟩
        have L := c_49 (n := n) W K hm.1 hm.2 hd1 hd2 (v1 := (0, dP d1)) (v4 := (0, dP d2)) rfl rfl zFuel 0 s (by have := pck_b W hd1; omega) (by have := pck_b W hd1; unfold zFuel; omega) s1
        refine ok_call L ?_
        rintro r ⟨r1, r2, r3⟩
        refine ok_some ⟨rfl, r1, fun q q1 q2 => ?_, ?_⟩
        · show r.2.2 q = σ q
          rw [r3.1 q (by omega), s2 q (by omega)]
        · have E : ∀ q : Nat, (q < 116 ∨ 124 ≤ q) → r.2.2 q = σ q := fun q hq => by rw [r3.1 q hq, s2 q (by omega)]
          refine IC_mk r2.1 (ICK_f (fun q q1 q2 => E q (by omega)) IK) (ICW_f (fun q hq => E q (by omega)) IW) ?_
          have e4 : r.2.2 116 4 = σ 116 4 + 1 := by rw [r3.2.1 4 (by omega), s3]
          exact ⟨by rw [e4]; have := I9.1; omega, by rw [e4]; have := I9.2.1; omega, r2.2.2.2.1⟩
      · intro σ' V1 VV1
        have v2 : σ' 129 46 = 0 := VV1 2
        unfold f_M_cross
        refine ok_eqb (e_M_isDim σ' d1) ?_
        rw [bI_t b1, if_neg (by omega)]
        refine ok_bind (ok_eqb (e_M_isDim σ' d2) ?_)
        rw [bI_t b2, if_neg (by omega)]
        refine ok_eqb (e_M_isMeasure W V1 m) ?_
        rw [bI_t hm, if_neg (by omega)]
        refine ok_some ?_
        rw [if_pos (by omega), if_pos hne]
        refine ok_bind (ok_some (ok_eqb (e_M_holds _ _) ?_))
        dsimp only
        rw [if_pos (by simp)]
        have L := m_65 W K hm.1 hm.2 hd1 hd2 hne zFuel 0 (hset σ' 129 50 0) (by have := pck_b W hd1; omega) (by have := pck_b W hd1; unfold zFuel; omega) (MS_0 V1 VV1) (by rw [hs_nj (by omega)]; exact v2)
        refine ok_call L ?_
        rintro r ⟨r1, r2, r3, r4⟩
        refine ok_some ?_
        rw [r1]
        exact MR_ms VV1 rfl r2 r3 r4 _
    · refine opt_er H 2 0 ?_ ?_
      · unfold f_L_cross
        refine ok_eqb (v := (2, 0, σ)) ?_ ?_
        · unfold f_C_cross; apply ok_eq
          refine ok_eqb (nX_y hd1) ?_
          rw [if_pos rfl]
          refine ok_eqb (nX_y hd2) ?_
          rw [if_pos rfl]
          refine ok_eqb (nS_y W R.2.2.2.2.2.1 hm) ?_
          rw [if_pos rfl, if_neg hne]
          exact ok_some rfl
        · (rw [if_neg (by simp), if_neg (by simp), if_pos rfl]; exact ok_some (LR_er W I (by omega) _ _ (by omega)))
      · intro σ' V1 VV1
        unfold f_M_cross
        refine ok_eqb (e_M_isDim σ' d1) ?_
        rw [bI_t b1, if_neg (by omega)]
        refine ok_bind (ok_eqb (e_M_isDim σ' d2) ?_)
        rw [bI_t b2, if_neg (by omega)]
        refine ok_eqb (e_M_isMeasure W V1 m) ?_
        rw [bI_t hm, if_neg (by omega)]
        refine ok_some ?_
        rw [if_pos (by omega), if_neg hne]
        refine ok_bind (ok_some ?_)
        (refine ok_eqb (e_M_holds _ _) ?_; dsimp only; rw [if_neg (by simp)]; exact ok_some (MR_er V1 VV1 (by omega) _ _ _ (fun g => absurd g (by omega))))
  · refine opt_er H 1 0 ?_ ?_
    · unfold f_L_cross
      refine ok_eqb (v := (1, 0, σ)) ?_ ?_
      · unfold f_C_cross; apply ok_eq
        by_cases hd1 : inD d1
        · refine ok_eqb (nX_y hd1) ?_
          rw [if_pos rfl]
          by_cases hd2 : inD d2
          · refine ok_eqb (nX_y hd2) ?_
            rw [if_pos rfl]
            refine ok_eqb (nS_n R.2.2.2.2.2.1 (fun g => h ⟨⟨hd1, hd2⟩, g⟩)) ?_
            rw [if_neg (by omega)]
            exact ok_grd (by omega) (ok_some rfl)
          · refine ok_eqb (nX_n hd2) ?_
            rw [if_neg (by simp)]
            exact ok_grd (by simp) (ok_some rfl)
        · refine ok_eqb (nX_n hd1) ?_
          rw [if_neg (by simp)]
          exact ok_grd (by simp) (ok_some rfl)
      · (rw [if_neg (by simp), if_pos rfl]; exact ok_some (LR_er W I (by omega) _ _ (by omega)))
    · intro σ' V1 VV1
      unfold f_M_cross
      refine ok_eqb (e_M_isDim σ' d1) ?_
      refine ok_call (P := fun j => j = 0) ?_ ?_
      · by_cases hd1 : inD d1
        · rw [bI_t (inD_b hd1), if_neg (by omega)]
          refine ok_eqb (e_M_isDim σ' d2) ?_
          by_cases hd2 : inD d2
          · rw [bI_t (inD_b hd2), if_neg (by omega)]
            refine ok_eqb (e_M_isMeasure W V1 m) ?_
            rw [bI_f (fun g => h ⟨⟨hd1, hd2⟩, g⟩), if_pos rfl]
            exact ok_some rfl
          · rw [bI_f (fun q => hd2 (inD_of q)), if_pos rfl]; exact ok_some rfl
        · rw [bI_f (fun q => hd1 (inD_of q)), if_pos rfl]; exact ok_some rfl
      rintro j rfl
      rw [if_neg (by omega)]
      refine ok_bind (ok_some ?_)
      (refine ok_eqb (e_M_holds _ _) ?_; dsimp only; rw [if_neg (by simp)]; exact ok_some (MR_er V1 VV1 (by omega) _ _ _ (fun g => absurd g (by omega))))
end
