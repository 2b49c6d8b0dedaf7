section
variable {σ : Hp} {a a' b : Ab} {n : Nat} {B : Int} {e : Nat} {d h z m top : Int} {row : Int → Int}
noncomputable def pkK (d h z m top : Int) (v35 : Int × Hp) : Option (Int × Hp) := if v35.1 = 0 then (f_M_pick_147 d h z zFuel 0 0 v35.2).bind fun j53 => (if top ≠ 0 then (f_M_tops j53.2.2 d j53.1 m top).bind fun v57 => some (v57.1, v57.2) else some (j53.1, j53.2.2) : Option (Int × Hp)).bind fun j55 => grd (0 ≤ (d : Int) ∧ (d : Int) < 3) <| grd (0 ≤ (d : Int) ∧ (d : Int) < 3) <| some (((hset j55.2 165 d j55.1) 165 d), (hset j55.2 165 d j55.1)) else some ((-1), v35.2)
def pkA1 (a : Ab) (d h z m top : Int) : Prop := inD d ∧ (h ≠ 2 → thr a d z) ∧ (top ≠ 0 → 0 ≤ m ∧ m < a.measures)
def pkA2 (h z top : Int) : Prop := (0 ≤ h ∧ h ≤ 2) ∧ (0 ≤ top ∧ top ≤ 12) ∧ (h = 2 → 0 ≤ z ∧ z ≤ 11)
theorem m_pick_pre (W : WFA a) {σ' : Hp} (V1 : Vw σ' a) {cd : Int} (hc : (¬ pkA1 a d h z m top ∧ cd = 1) ∨ (pkA1 a d h z m top ∧ ¬ pkA2 h z top ∧ cd = 2) ∨ (pkA1 a d h z m top ∧ pkA2 h z top ∧ ¬ (h ≠ 2 → isP a d z) ∧ cd = 3) ∨ (pkA1 a d h z m top ∧ pkA2 h z top ∧ (h ≠ 2 → isP a d z) ∧ cd = 0)) {Q : Int × Hp → Prop} (K : Okk ((f_M_holds σ' cd).bind (pkK d h z m top)) Q) : Okk (f_M_pick σ' d h z m top) Q := by
  unfold f_M_pick
  refine ok_eqb (e_M_isDim σ' d) ?_
  refine ok_call (P := fun j => j = bI (pkA1 a d h z m top)) ?_ ?_
  · by_cases hd : inD d
    · rw [bI_t (inD_b hd), if_neg (by omega)]
      refine ok_ite (fun h2 => ?_) (fun h2 => ?_)
      · refine ok_ite (fun t0 => ok_some (bI_t ⟨hd, fun q => absurd h2 q, fun q => absurd t0 q⟩).symm) (fun t0 => ?_)
        refine ok_eqb (e_M_isMeasure W V1 m) ?_
        by_cases B2 : 0 ≤ m ∧ m < a.measures
        · rw [bI_t B2, if_neg (by omega)]; exact ok_some (bI_t ⟨hd, fun q => absurd h2 q, fun _ => B2⟩).symm
        · rw [bI_f B2, if_pos rfl]; exact ok_some (bI_f (fun q => B2 (q.2.2 t0))).symm
      · refine ok_eqb (e_M_is W V1 d z) ?_
        by_cases B1 : inD d ∧ thr a d z
        · rw [bI_t B1, if_neg (by omega)]
          refine ok_ite (fun t0 => ok_some (bI_t ⟨hd, fun _ => B1.2, fun q => absurd t0 q⟩).symm) (fun t0 => ?_)
          refine ok_eqb (e_M_isMeasure W V1 m) ?_
          by_cases B2 : 0 ≤ m ∧ m < a.measures
          · rw [bI_t B2, if_neg (by omega)]; exact ok_some (bI_t ⟨hd, fun _ => B1.2, fun _ => B2⟩).symm
          · rw [bI_f B2, if_pos rfl]; exact ok_some (bI_f (fun q => B2 (q.2.2 t0))).symm
        · rw [bI_f B1, if_pos rfl]; exact ok_some (bI_f (fun q => B1 ⟨hd, q.2.1 h2⟩)).symm
    · rw [bI_f (fun q => hd (inD_of q)), if_pos rfl]; exact ok_some (bI_f (fun q => hd q.1)).symm
  rintro j3 rfl
  refine ok_eqb (e_M_in σ' h 0 2) ?_
  refine ok_call (P := fun j => j = bI (pkA2 h z top)) ?_ ?_
  · by_cases C1 : 0 ≤ h ∧ h ≤ 2
    · rw [bI_t C1, if_neg (by omega)]
      refine ok_eqb (e_M_in σ' top 0 12) ?_
      by_cases C2 : 0 ≤ top ∧ top ≤ 12
      · rw [bI_t C2, if_neg (by omega)]
        refine ok_ite (fun q => ok_some (bI_t ⟨C1, C2, fun w => absurd w q⟩).symm) (fun q => ?_)
        refine ok_eqb (e_M_in σ' z 0 11) ?_
        by_cases C3 : 0 ≤ z ∧ z ≤ 11
        · rw [bI_t C3, if_neg (by omega)]; exact ok_some (bI_t ⟨C1, C2, fun _ => C3⟩).symm
        · rw [bI_f C3, if_pos rfl]; exact ok_some (bI_f (fun w => C3 (w.2.2 (Classical.not_not.mp q)))).symm
      · rw [bI_f C2, if_pos rfl]; exact ok_some (bI_f (fun w => C2 w.2.1)).symm
    · rw [bI_f C1, if_pos rfl]; exact ok_some (bI_f (fun w => C1 w.1)).symm
  rintro j19 rfl
  refine ok_call (P := fun j => j = cd) ?_ ?_
  · by_cases A1 : pkA1 a d h z m top
    · rw [bI_t A1, if_pos (by omega)]
      by_cases A2 : pkA2 h z top
      · rw [bI_t A2, if_pos (by omega)]
        have hd := A1.1
        refine ok_ite (fun h2 => ok_some ?_) (fun h2 => ?_)
        · rcases hc with q | q | q | q
          · exact absurd A1 q.1
          · exact absurd A2 q.2.1
          · exact absurd (fun w => absurd h2 w) q.2.2.1
          · exact q.2.2.2.symm
        · have ht := A1.2.1 h2
          refine ok_eqb (e_M_isPlain V1 hd (thr12 W hd ht)) ?_
          by_cases hp : isP a d z
          · rw [bI_t hp, if_pos (by omega)]
            refine ok_some ?_
            rcases hc with q | q | q | q
            · exact absurd A1 q.1
            · exact absurd A2 q.2.1
            · exact absurd (fun _ => hp) q.2.2.1
            · exact q.2.2.2.symm
          · rw [bI_f hp, if_neg (by omega)]
            refine ok_some ?_
            rcases hc with q | q | q | q
            · exact absurd A1 q.1
            · exact absurd A2 q.2.1
            · exact q.2.2.2.symm
            · exact absurd (q.2.2.1 h2) hp
      · rw [bI_f A2, if_neg (by omega)]
        refine ok_some ?_
        rcases hc with q | q | q | q
        · exact absurd A1 q.1
        · exact q.2.2.symm
        · exact absurd q.2.1 A2
        · exact absurd q.2.1 A2
    · rw [bI_f A1, if_neg (by omega)]
      refine ok_some ?_
      rcases hc with q | q | q | q
      · exact q.2.symm
      · exact absurd q.1 A1
      · exact absurd q.1 A1
      · exact absurd q.1 A1
  · rintro j rfl
    exact K
theorem pcB_pkA {T : Int} {row' : Int → Int} : pcB (pkA a row') d row T = pcB a d row T := by
  funext q j
  show (if q = 164 then row j else if q = 165 ∧ j = d then T else (if q = 164 then row' j else a q j)) = if q = 164 then row j else if q = 165 ∧ j = d then T else a q j
  by_cases g : q = 164
  · rw [if_pos g, if_pos g]
  · rw [if_neg g, if_neg g, if_neg g]
theorem MS_pb (W : WFA a) (K : WFW a) (hr : rwW a row) {s : Hp} (M : MS s (pkA a row)) (T : Int) : MS (hset s 165 d T) (pcB a d row T) := by
  have V : Vw (hset s 165 d T) (pcB a d row T) := fun q j hq => by
    by_cases g : q = 165
    · subst g
      rw [hs_if]
      show _ = if (165 : Nat) = 164 then row j else if (165 : Nat) = 165 ∧ j = d then T else a 165 j
      rw [if_neg (show ¬ (165 : Nat) = 164 by omega)]
      by_cases g2 : j = d
      · rw [if_pos g2, if_pos ⟨rfl, g2⟩]
      · rw [if_neg g2, if_neg (fun w => g2 w.2), M.1 165 j hq, pk_q (by omega)]
    · rw [hset_ne g, M.1 q j hq]
      by_cases g2 : q = 164
      · subst g2
        exact (show pkA a row 164 j = row j from if_pos rfl).trans (show pcB a d row T 164 j = row j from if_pos rfl).symm
      · rw [pk_q g2, pb_q g2 g]
  have S := pb_V (a := pkA a row) (d := d) (row := row) (k := T)
  rw [pcB_pkA] at S
  exact MS_s (pkA_W W hr) (pkA_K K) S M V (hset_ne (by omega)) (hset_ne (by omega)) (by rw [hset_ne (by omega)])
theorem MR_ms2 {σ' s : Hp} {a' : Ab} (VV1 : ICV σ' a (B + 1)) (X : ∀ q : Nat, q ≠ 129 → q ≠ 160 → q ≠ 161 → q ≠ 164 → q ≠ 165 → q ≠ 166 → s q = σ' q) (Y : ∀ j : Int, j ≠ 46 → s 129 j = hset σ' 129 50 0 129 j) (M : MS s a') (h46 : s 129 46 = 0) (v : Int) : MR σ' a' (B + 61) 0 v (v, s) := by
  have v0 : 1 ≤ σ' 129 38 ∧ σ' 129 38 ≤ B + 1 ∧ ∀ c : Int, 0 ≤ c → c < 13824 → σ' 161 c ≤ σ' 129 38 := VV1 0
  refine ⟨?_, fun _ => rfl, fun q hq => X q (by omega) (by omega) (by omega) (by omega) (by omega) (by omega), M.1, fun k => ?_⟩
  · show s 129 50 = 0
    rw [Y 50 (by omega), hs_eq]
  · have e38 : s 129 38 = σ' 129 38 := by rw [Y 38 (by omega), hs_nj (by omega)]
    match k with
    | 0 => exact (⟨by rw [e38]; omega, by rw [e38]; omega, M.2.1⟩ : 1 ≤ s 129 38 ∧ s 129 38 ≤ B + 61 ∧ ∀ c : Int, 0 ≤ c → c < 13824 → s 161 c ≤ s 129 38)
    | 1 => exact M.2.2
    | 2 => exact h46
    | _ + 3 => trivial
theorem op_pick (H : J σ a n B) (hB : B ≤ 100000) (d h z m top : Int) : OPT σ a n B e (f_L_pick σ e d h z m top) (fun σ' => f_M_pick σ' d h z m top) := by
  obtain ⟨W, K, V, I, VV, h1, h2⟩ := id H
  obtain ⟨R, IK, IW, I9⟩ := IC_r I
  by_cases A1 : pkA1 a d h z m top
  · by_cases A2 : pkA2 h z top
    · by_cases A3 : h ≠ 2 → isP a d z
      · have hd := A1.1
        have hd' := inD_b hd
        have mb := many_b W hd
        have hok : hOk a d h z := ⟨hd, by have := A2.1; omega, fun q => ⟨A1.2.1 q, A3 q⟩, A2.2.2⟩
        obtain ⟨r, er, r0, T, rT, E, E2, e2, E4, I9', yv, ⟨N01, ny, np⟩, D⟩ := c_pick0 H hB A1 A2 A3
        have rw0 : rwW a (pkR a d (askC a d h z) (a.many d).toNat) := pkR_w W hd _ (by omega)
        -- the reference's first rows
        have M1 : ∀ σ' : Hp, Vw σ' a → ICV σ' a (B + 1) → Okk (f_M_pick_147 d h z zFuel 0 0 (hset σ' 129 50 0)) fun u => u.1 = nC (askC a d h z) (a.many d).toNat ∧ MS u.2.2 (pkA a (pkR a d (askC a d h z) (a.many d).toNat)) ∧ ∀ q : Nat, q ≠ 164 → u.2.2 q = (hset σ' 129 50 0) q := by
          intro σ' V1 VV1
          have V0 : Vw (hset σ' 129 50 0) (pkA a (pkR a d (askC a d h z) 0)) := by
            have e0 : pkA a (pkR a d (askC a d h z) 0) = a := by
              funext q j
              show (if q = 164 then a 164 j else a q j) = a q j
              by_cases g : q = 164
              · rw [if_pos g, g]
              · rw [if_neg g]
            rw [e0]; exact Vw_50 V1 0
          refine ok_mono (m_147 W (Vw_50 V1 0) hok zFuel 0 (hset σ' 129 50 0) (by omega) (by unfold zFuel; omega) V0 (fun _ _ => rfl)) ?_
          rintro u ⟨u1, u2, u3⟩
          exact ⟨u1, MS_s W K pkA_V (MS_0 V1 VV1) u2 (u3 161 (by omega)) (u3 160 (by omega)) (by rw [u3 129 (by omega)]), u3⟩
        have fin : ∀ row : Int → Int, pbC a d row T → rwW a row → (∀ i : Int, 0 ≤ i → i < T → r.2.2 (dP d + 12) i = row (12 * d + i)) → (∀ σ' : Hp, Vw σ' a → ICV σ' a (B + 1) → ∀ u : Int × Int × Hp, u.1 = nC (askC a d h z) (a.many d).toNat → MS u.2.2 (pkA a (pkR a d (askC a d h z) (a.many d).toNat)) → (∀ q : Nat, q ≠ 164 → u.2.2 q = (hset σ' 129 50 0) q) → Okk (if top ≠ 0 then (f_M_tops u.2.2 d u.1 m top).bind fun v57 => some (v57.1, v57.2) else some (u.1, u.2.2) : Option (Int × Hp)) fun w => w.1 = T ∧ MS w.2 (pkA a row) ∧ w.2 129 46 = 0 ∧ (∀ q : Nat, q ≠ 129 → q ≠ 160 → q ≠ 161 → q ≠ 164 → q ≠ 166 → w.2 q = σ' q) ∧ ∀ j : Int, j ≠ 46 → w.2 129 j = hset σ' 129 50 0 129 j) → OPT σ a n B e (f_L_pick σ e d h z m top) (fun σ' => f_M_pick σ' d h z m top) := by
          intro row C hrw er2 HM
          refine ⟨0, T, pcB a d row T, ⟨pb_W W C, WFW_s K pb_D pb_S, by rw [show Ab.hits (pcB a d row T) = a.hits from pb_j 41]; exact h1, by rw [show Ab.hits (pcB a d row T) = a.hits from pb_j 41]; omega⟩, ?_, ?_⟩
          · unfold f_L_pick
            refine L_ok (pb_W W C) ⟨r, er, r0, rT, fun q q1 q2 => E4 q (by omega), ?_⟩
            exact pick_fin H C E E2 e2 er2 E4 I9'
          · intro σ' V1 VV1
            refine m_pick_pre W V1 (Or.inr (Or.inr (Or.inr ⟨A1, A2, A3, rfl⟩))) ?_
            refine ok_eqb (e_M_holds _ _) ?_
            unfold pkK
            dsimp only
            rw [if_pos (by simp)]
            refine ok_call (M1 σ' V1 VV1) ?_
            rintro u ⟨u1, u2, u3⟩
            refine ok_call (HM σ' V1 VV1 u u1 u2 u3) ?_
            rintro w ⟨w1, w2, w3, w4, w5⟩
            refine ok_grd (by omega) (ok_grd (by omega) (ok_some ?_))
            rw [hs_eq, w1]
            exact MR_ms2 VV1 (fun q q1 q2 q3 q4 q5 q6 => by rw [hset_ne q5]; exact w4 q q1 q2 q3 q4 q6) (fun j hj => by rw [hset_ne (by omega)]; exact w5 j hj) (MS_pb W K hrw w2 T) (by rw [hset_ne (by omega)]; exact w3) T
        rcases D with ⟨t0, tN, tr⟩ | ⟨t0, c, tc, c12, A⟩
        · refine fin (pkR a d (askC a d h z) (a.many d).toNat) ⟨hd, by omega, by omega, fun i i0 i1 => by rw [np i i0 (by omega)]; exact ny i i0 (by omega), fun d' i hd2 hne i0 i1 => ?_⟩ rw0 (fun i i0 i1 => by rw [tr i i0 i1, np i i0 (by omega)]) (fun σ' V1 VV1 u u1 u2 u3 => ?_)
          · have pb := pck_b W hd2
            have hd2' := inD_b hd2
            refine pkR_o _ (fun y hy => ?_)
            have nb := nC_b (askC a d h z) y
            have := inD_b hd2
            omega
          · have v2 : σ' 129 46 = 0 := VV1 2
            rw [if_neg (fun q => q t0)]
            exact ok_some ⟨by rw [u1, tN], u2, by rw [u3 129 (by omega), hs_nj (by omega)]; exact v2, fun q q1 q2 q3 q4 q6 => by rw [u3 q q4, hset_ne q1], fun j hj => by rw [u3 129 (by omega)]⟩
        · have hm := A1.2.2 t0
          have hcr : ∀ i : Int, 0 ≤ i → i < c → thr a d (r.2.2 (dP d + 12) i) ∧ isP a d (r.2.2 (dP d + 12) i) := fun i i0 i1 => by
            obtain ⟨⟨k, k0, k1, k2⟩, _⟩ := A.2.1 i i0 i1
            rw [← k2]; exact ny k k0 k1
          have c0 : 0 ≤ c := A.1
          have t12 := A2.2.1
          refine fin (tpR d (pkR a d (askC a d h z) (a.many d).toNat) (r.2.2 (dP d + 12)) T) ⟨hd, by omega, by omega, fun i i0 i1 => by rw [tpR_i ⟨i0, i1⟩]; exact hcr i i0 (by omega), fun d' i hd2 hne i0 i1 => ?_⟩ (tpR_W W hd rw0 (by omega) (fun i i0 i1 => hcr i i0 (by omega))) (fun i i0 i1 => (tpR_i ⟨i0, i1⟩).symm) (fun σ' V1 VV1 u u1 u2 u3 => ?_)
          · have pb := pck_b W hd2
            have hd2' := inD_b hd2
            rw [tpR_o (by omega)]
            refine pkR_o _ (fun y hy => ?_)
            have nb := nC_b (askC a d h z) y
            omega
          · have v2 : σ' 129 46 = 0 := VV1 2
            rw [if_pos t0, u1]
            refine ok_call (m_tops W K hm.1 hm.2 hd rw0 N01.1 N01.2 ny np A c12 t12.1 t12.2 u2 (by rw [u3 129 (by omega), hs_nj (by omega)]; exact v2)) ?_
            rintro w ⟨w1, w2, w3, w4, w5⟩
            refine ok_some ⟨by rw [w1, tc], by rw [tc]; exact w2, w3, fun q q1 q2 q3 q4 q6 => by dsimp only; rw [w4 q q1 q2 q3 q4 q6, u3 q q4, hset_ne q1], fun j hj => by dsimp only; rw [w5 j hj, u3 129 (by omega)]⟩
      · refine opt_er H 3 0 ?_ ?_
        · unfold f_L_pick
          refine ok_eqb (c_pick_e H (cd := 3) (Or.inr (Or.inr ⟨A1, A2, A3, rfl⟩))) ?_
          (rw [if_neg (by simp), if_neg (by simp), if_neg (by simp), if_pos rfl]; exact ok_some (LR_er W I (by omega) _ _ (by omega)))
        · intro σ' V1 VV1
          refine m_pick_pre W V1 (Or.inr (Or.inr (Or.inl ⟨A1, A2, A3, rfl⟩))) ?_
          unfold pkK
          (refine ok_eqb (e_M_holds _ _) ?_; dsimp only; rw [if_neg (by simp)]; exact ok_some (MR_er V1 VV1 (by omega) _ _ _ (fun g => absurd g (by omega))))
    · refine opt_er H 2 0 ?_ ?_
      · unfold f_L_pick
        refine ok_eqb (c_pick_e H (cd := 2) (Or.inr (Or.inl ⟨A1, A2, rfl⟩))) ?_
        (rw [if_neg (by simp), if_neg (by simp), if_pos rfl]; exact ok_some (LR_er W I (by omega) _ _ (by omega)))
      · intro σ' V1 VV1
        refine m_pick_pre W V1 (Or.inr (Or.inl ⟨A1, A2, rfl⟩)) ?_
        unfold pkK
        (refine ok_eqb (e_M_holds _ _) ?_; dsimp only; rw [if_neg (by simp)]; exact ok_some (MR_er V1 VV1 (by omega) _ _ _ (fun g => absurd g (by omega))))
  · refine opt_er H 1 0 ?_ ?_
    · unfold f_L_pick
      refine ok_eqb (c_pick_e H (cd := 1) (Or.inl ⟨A1, rfl⟩)) ?_
      (rw [if_neg (by simp), if_pos rfl]; exact ok_some (LR_er W I (by omega) _ _ (by omega)))
    · intro σ' V1 VV1
      refine m_pick_pre W V1 (Or.inl ⟨A1, rfl⟩) ?_
      unfold pkK
      (refine ok_eqb (e_M_holds _ _) ?_; dsimp only; rw [if_neg (by simp)]; exact ok_some (MR_er V1 VV1 (by omega) _ _ _ (fun g => absurd g (by omega))))
end
