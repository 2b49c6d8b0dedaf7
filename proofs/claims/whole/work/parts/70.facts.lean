/-! ===== fact, forget ===== -/
section
variable {σ : Hp} {a b : Ab} {n : Nat} {B : Int} {e : Nat}
def isF (a : Ab) (t x y m f : Int) : Prop := a.ft f = t ∧ a.fa f = x ∧ a.fb f = y ∧ a.fm f = m
theorem isF_u (W : WFA a) {t x y m f g : Int} (f0 : 0 ≤ f) (f1 : f < a.facts) (g0 : 0 ≤ g) (g1 : g < a.facts) (hf : isF a t x y m f) (hg : isF a t x y m g) : f = g := (show ∀ f g : Int, 0 ≤ f → f < a.facts → 0 ≤ g → g < a.facts → a.ft f = a.ft g → a.fa f = a.fa g → a.fb f = a.fb g → a.fm f = a.fm g → f = g from W 18) f g f0 f1 g0 g1 (hf.1.trans hg.1.symm) (hf.2.1.trans hg.2.1.symm) (hf.2.2.1.trans hg.2.2.1.symm) (hf.2.2.2.trans hg.2.2.2.symm)
theorem e_FR_find (W : WFA a) (H : ICF σ a) {t x y m : Int} (h : cin a t x y) : Okk (f_FR_find σ (clq t x y) m) fun r => (r = -1 ∧ ∀ f : Int, 0 ≤ f → f < a.facts → ¬ isF a t x y m f) ∨ (0 ≤ r ∧ r < a.facts ∧ isF a t x y m r) := by
  have hF0 : σ 101 0 = a.facts ∧ ∀ f : Int, 0 ≤ f → f < a.facts → σ 102 f = 144 * a.ft f + 12 * a.fa f + a.fb f ∧ σ 103 f = a.fm f ∧ σ 104 f = a.fv f := H 0
  have h12 : 0 ≤ a.facts ∧ a.facts ≤ 50 ∧ _ := W 12
  have L : ∀ (F : Nat) (k : Int), 0 ≤ k → k ≤ a.facts → a.facts - k < F → (∀ f : Int, 0 ≤ f → f < k → ¬ isF a t x y m f) → Okk (f_FR_find_2 σ (clq t x y) m F k) fun r => (r = -1 ∧ ∀ f : Int, 0 ≤ f → f < a.facts → ¬ isF a t x y m f) ∨ (0 ≤ r ∧ r < a.facts ∧ isF a t x y m r) := by
    intro F
    induction F with
    | zero => intro k k0 k1 hF; omega
    | succ F ih =>
      intro k k0 k1 hF hno
      rw [f_FR_find_2, hF0.1]
      refine ok_ite (fun g => ok_some (Or.inl ⟨rfl, fun f f0 f1 => hno f f0 (by omega)⟩)) (fun g => ok_grd (by omega) ?_)
      have r := hF0.2 k k0 (by omega)
      have hf := fct W k0 (by omega : k < a.facts)
      have nx : ¬ isF a t x y m k → Okk (grd (r32 (k + 1)) <| f_FR_find_2 σ (clq t x y) m F (k + 1)) fun r => (r = -1 ∧ ∀ f : Int, 0 ≤ f → f < a.facts → ¬ isF a t x y m f) ∨ (0 ≤ r ∧ r < a.facts ∧ isF a t x y m r) := fun hn => ok_grd (by (first | omega | (unfold r32; omega) | (unfold r64; omega) | (simp only [r32, r64] at *; omega))) (ih (k + 1) (by omega) (by omega) (by omega) (fun f f0 f1 => by
        by_cases q : f = k
        · rw [q]; exact hn
        · exact hno f f0 (by omega)))
      rw [r.1, r.2.1]
      refine ok_ite (fun q => nx (fun p => q ?_)) (fun q => ok_grd (by omega) (ok_ite (fun q2 => nx (fun p => q2 p.2.2.2)) (fun q2 => ok_some (Or.inr ⟨k0, by omega, ?_⟩))))
      · unfold clq; rw [p.1, p.2.1, p.2.2.1]
      · have hc : clq (a.ft k) (a.fa k) (a.fb k) = clq t x y := Classical.not_not.mp q
        have hi := clq_i W ⟨hf.1.1, hf.2.1.1, hf.2.2.1.1⟩ h hc
        exact ⟨hi.1, hi.2.1, hi.2.2, Classical.not_not.mp q2⟩
  exact L zFuel 0 (by omega) (by omega) (by unfold zFuel; omega) (fun f f0 f1 => by omega)
theorem e_M_found (W : WFA a) (V : Vw σ a) (t x y m : Int) : Okk (f_M_found σ t x y m) fun r => (r = -1 ∧ ∀ f : Int, 0 ≤ f → f < a.facts → ¬ isF a t x y m f) ∨ (0 ≤ r ∧ r < a.facts ∧ isF a t x y m r) := by
  have h12 : 0 ≤ a.facts ∧ a.facts ≤ 50 ∧ _ := W 12
  have L : ∀ (F : Nat) (k r : Int), 0 ≤ k → k ≤ a.facts → a.facts - k < F → ((r = -1 ∧ ∀ f : Int, 0 ≤ f → f < k → ¬ isF a t x y m f) ∨ (0 ≤ r ∧ r < k ∧ isF a t x y m r)) → Okk (f_M_found_6 σ t x y m F r k) fun r => (r.1 = -1 ∧ ∀ f : Int, 0 ≤ f → f < a.facts → ¬ isF a t x y m f) ∨ (0 ≤ r.1 ∧ r.1 < a.facts ∧ isF a t x y m r.1) := by
    intro F
    induction F with
    | zero => intro k r k0 k1 hF; omega
    | succ F ih =>
      intro k r k0 k1 hF hr
      rw [f_M_found_6, w_facts V]
      refine ok_ite (fun g => ok_some ?_) (fun g => ok_grd (by omega) ?_)
      · rw [show k = a.facts by omega] at hr; exact hr
      · simp only [w_ft V, w_fa V, w_fb V, w_fm V]
        refine ok_call (P := fun s => (s = -1 ∧ ∀ f : Int, 0 ≤ f → f < k + 1 → ¬ isF a t x y m f) ∨ (0 ≤ s ∧ s < k + 1 ∧ isF a t x y m s)) ?_ (fun s hs => ok_grd (by (first | omega | (unfold r32; omega) | (unfold r64; omega) | (simp only [r32, r64] at *; omega))) (ih (k + 1) s (by omega) (by omega) (by omega) hs))
        have no : ¬ isF a t x y m k → (r = -1 ∧ ∀ f : Int, 0 ≤ f → f < k + 1 → ¬ isF a t x y m f) ∨ (0 ≤ r ∧ r < k + 1 ∧ isF a t x y m r) := by
          intro hn
          rcases hr with hr | hr
          · refine Or.inl ⟨hr.1, fun f f0 f1 => ?_⟩
            by_cases q : f = k
            · rw [q]; exact hn
            · exact hr.2 f f0 (by omega)
          · exact Or.inr ⟨hr.1, by omega, hr.2.2⟩
        refine ok_ite (fun q => ok_some (no (fun p => q p.1))) (fun q1 => ok_grd (by omega) (ok_ite (fun q => ok_some (no (fun p => q p.2.1))) (fun q2 => ok_grd (by omega) (ok_ite (fun q => ok_some (no (fun p => q p.2.2.1))) (fun q3 => ok_grd (by omega) (ok_ite (fun q => ok_some (no (fun p => q p.2.2.2))) (fun q4 => ok_some (Or.inr ⟨k0, by omega, Classical.not_not.mp q1, Classical.not_not.mp q2, Classical.not_not.mp q3, Classical.not_not.mp q4⟩))))))))
  unfold f_M_found
  exact ok_call (L zFuel 0 (-1) (by omega) (by omega) (by unfold zFuel; omega) (Or.inl ⟨rfl, fun f f0 f1 => by omega⟩)) (fun r hr => ok_some hr)
theorem MR_put {σ' s : Hp} {a' : Ab} (V1 : Vw σ' a) (VV1 : ICV σ' a (B + 1)) (W' : WFA a') (V' : Vw s a') {t : Hp} (ht : t = hset σ' 129 50 0) (P : pcg t s) (h38 : s 129 38 = t 129 38 + 1) (v : Int) : MR σ' a' (B + 61) 0 v (v, s) := by
  have v0 : 1 ≤ σ' 129 38 ∧ σ' 129 38 ≤ B + 1 ∧ _ := VV1 0
  have e38 : t 129 38 = σ' 129 38 := by rw [ht, hs_nj (by omega)]
  refine ⟨?_, fun _ => rfl, fun q hq => ?_, V', ICV_fresh VV1 ?_ (by dsimp only; omega) (by dsimp only; omega) ?_ W'⟩
  · show s 129 50 = 0
    rw [P.2.2.1, ht, hs_eq]
  · show s q = σ' q
    rw [P.1 q (by omega), ht, hset_ne (by omega)]
  · show s 161 = σ' 161
    rw [P.1 161 (by omega), ht, hset_ne (by omega)]
  · show s 129 46 = σ' 129 46
    rw [P.2.1, ht, hs_nj (by omega)]
theorem drA_n (pt px py fm : Int) : Ab.facts (drA a pt px py fm) = a.facts := by unfold drA Ab.facts; exact sA_j (by omega)
theorem op_fact (H : J σ a n B) (hB : B ≤ 100000) (t x y m v : Int) : OPT σ a n B e (f_L_fact σ e t x y m v) (fun σ' => f_M_fact σ' t x y m v) := by
  obtain ⟨W, K, V, I, VV, h1, h2⟩ := id H
  obtain ⟨R, IK, IW, I9⟩ := IC_r I
  have h12 : 0 ≤ a.facts ∧ a.facts ≤ 50 ∧ _ := W 12
  by_cases h : mem4 a t x y m
  · have hc : cin a t x y := ⟨h.1, h.2.1, h.2.2.1⟩
    have m4 := (mea W h.2.2.2.1 h.2.2.2.2).1
    -- the place, if it is one
    have FND : ∀ σ' : Hp, Vw σ' a → Okk (f_M_found σ' t x y m) fun r => (r = -1 ∧ ∀ f : Int, 0 ≤ f → f < a.facts → ¬ isF a t x y m f) ∨ (0 ≤ r ∧ r < a.facts ∧ isF a t x y m r) := fun σ' V1 => e_M_found W V1 t x y m
    by_cases hv : -1000000 ≤ v ∧ v ≤ 1000000
    · by_cases hb : (isP a 0 t ∧ isP a 1 x ∧ isP a 2 y) ∧ a.mk m ≠ 3 ∧ ((∃ f : Int, 0 ≤ f ∧ f < a.facts ∧ isF a t x y m f) ∨ a.facts < 50)
      · obtain ⟨hP, hk, hf⟩ := hb
        have CL : ∀ Q : Option (Int × Nat × Hp) → Prop, True := fun _ => trivial
        have mj7 : ∀ (σ' : Hp) (r : Int), Vw σ' a → ((r = -1 ∧ ∀ f : Int, 0 ≤ f → f < a.facts → ¬ isF a t x y m f) ∨ (0 ≤ r ∧ r < a.facts ∧ isF a t x y m r)) → Okk (if (1 : Int) = 0 then some 0 else (f_M_isPlain σ' 0 t).bind fun v9 => if v9 = 0 then some 1 else (f_M_isPlain σ' 1 x).bind fun v11 => if v11 = 0 then some 1 else (f_M_isPlain σ' 2 y).bind fun v13 => if v13 = 0 then some 1 else grd (0 ≤ (m : Int) ∧ (m : Int) < 4) <| if (σ' 146 m) = 3 then some 1 else if 0 ≤ r then some 0 else if (σ' 129 29) ≠ 50 then some 0 else some 1 : Option (Int)) fun q => q = 0 := by
          intro σ' r V1 hr
          rw [if_neg (by omega)]
          refine ok_eqb (e_M_isPlain V1 iD0 (thr12 W iD0 hc.1)) ?_
          rw [bI_t hP.1, if_neg (by omega)]
          refine ok_eqb (e_M_isPlain V1 iD1 (thr12 W iD1 hc.2.1)) ?_
          rw [bI_t hP.2.1, if_neg (by omega)]
          refine ok_eqb (e_M_isPlain V1 iD2 (thr12 W iD2 hc.2.2)) ?_
          rw [bI_t hP.2.2, if_neg (by omega), w_mk V1, w_facts V1]
          refine ok_grd ⟨h.2.2.2.1, m4⟩ ?_
          rw [if_neg hk]
          refine ok_ite (fun _ => ok_some rfl) (fun g => ?_)
          rcases hr with hr | hr
          · rcases hf with ⟨f, f0, f1, hf⟩ | hf
            · exact absurd hf (hr.2 f f0 f1)
            · rw [if_pos (by omega)]; exact ok_some rfl
          · omega
        by_cases hx : ∃ f : Int, 0 ≤ f ∧ f < a.facts ∧ isF a t x y m f
        · obtain ⟨f, f0, f1, hff⟩ := hx
          have hff' := fct W f0 f1
          have PW := putA_W W K (f := f) hv
          have pf := putA_f (a := a) (f := f) (v := v)
          refine ⟨0, a.facts, putA a f v, ⟨PW.1, PW.2.1, by rw [PW.2.2]; exact h1, by rw [PW.2.2]; omega⟩, ?_, ?_⟩
          · unfold f_L_fact
            refine L_ok PW.1 ?_
            unfold f_C_fact
            refine ok_eqb (nC_y' W R h) ?_
            rw [if_pos rfl]
            refine ok_eqb (nR_y hv) ?_
            rw [if_pos rfl]
            refine ok_eqb (r_S_isPlain W R hc) ?_
            rw [bI_t hP, if_neg (by omega)]
            refine ok_bind (ok_eqb (r_MS_kindOf W R.2.2.2.2.2.1 h.2.2.2.1 h.2.2.2.2) ?_)
            rw [if_neg hk]
            refine ok_some (ok_eqb need1 ?_)
            rw [if_pos rfl]
            refine ok_call (e_FR_find W R.2.2.2.2.2.2 hc) (fun r hr => ?_)
            have er : r = f := by
              rcases hr with hr | hr
              · exact absurd hff (hr.2 f f0 f1)
              · exact isF_u W hr.1 hr.2.1 f0 f1 hr.2.2 hff
            subst er
            rw [if_pos (by omega), if_pos (by omega)]
            refine ok_bind (ok_some (ok_eqb need1 ?_))
            rw [if_pos rfl]
            refine ok_bind (ok_call (c_setNumber W K I f0 f1 hv) ?_)
            rintro s ⟨s1, s2, s3⟩
            have e101 : s.2 101 0 = a.facts := by
              have g : ICF s.2 (putA a r v) := (IC_r s2).1.2.2.2.2.2.2
              have g0 : s.2 101 0 = Ab.facts (putA a r v) ∧ _ := g 0
              rw [g0.1, pf.2.2.2.2.1]
            refine ok_some (ok_some ⟨rfl, e101, fun q q1 q2 => s3 q (by omega), IC_m PW.1 (fun _ _ => rfl) (by omega) s2⟩)
          · intro σ' V1 VV1
            unfold f_M_fact
            refine ok_eqb (e_M_areThere W V1 t x y m) ?_
            rw [bI_t h]
            refine ok_call (P := fun r => r = f) ?_ ?_
            · rw [if_neg (by omega)]
              refine ok_call (FND σ' V1) (fun r hr => ok_some ?_)
              rcases hr with hr | hr
              · exact absurd hff (hr.2 f f0 f1)
              · exact isF_u W hr.1 hr.2.1 f0 f1 hr.2.2 hff
            rintro r rfl
            refine ok_call (mj7 σ' r V1 (Or.inr ⟨f0, f1, hff⟩)) ?_
            rintro q rfl
            rw [if_pos (by omega)]
            refine ok_bind (ok_eqb (e_M_in σ' v (-1000000) 1000000) ?_)
            rw [bI_t hv, if_pos (by omega), if_pos rfl]
            refine ok_some (ok_eqb (e_M_holds _ _) ?_)
            dsimp only
            rw [if_pos (by simp)]
            have V2 := Vw_50 V1 0
            have v0 : 1 ≤ σ' 129 38 ∧ σ' 129 38 ≤ B + 1 ∧ _ := VV1 0
            have hput := e_M_put_set W V2 f0 f1 hv (by rw [hs_nj (by omega)]; (first | omega | (unfold r32; omega) | (unfold r64; omega) | (simp only [r32, r64] at *; omega)))
            rw [hff.1, hff.2.1, hff.2.2.1, hff.2.2.2] at hput
            refine ok_call hput ?_
            rintro s ⟨s1, s2, s3, s4, s5⟩
            have e29 : s.2 129 29 = a.facts := by rw [w_facts s2]; exact pf.2.2.2.2.1
            rw [e29]
            refine ok_some ?_
            by_cases hz : a.fv r = v
            · have es := s4 hz
              rw [es]
              have ep : putA a r v = a := by unfold putA; rw [if_pos hz]
              rw [ep]
              exact MR_er V1 VV1 (by omega) 0 _ _ (fun _ => rfl)
            · exact MR_put V1 VV1 PW.1 s2 rfl s3 (s5 hz) _
        · have hlt : a.facts < 50 := hf.resolve_left hx
          have N : newF a t x y m v := ⟨hc, hP, ⟨h.2.2.2.1, h.2.2.2.2, hk⟩, hv, hlt, fun f f0 f1 q => hx ⟨f, f0, f1, q⟩⟩
          have Wb := drA_W (ad_W W N) t x y m
          have Kb : WFW (drA (addA a t x y m v) t x y m) := drA_K (WFW_s K ad_FB.2.2.1 ad_FB.1.1) _ _ _ _
          have hh : Ab.hits (drA (addA a t x y m v) t x y m) = a.hits := sA_h.2.trans ad_FB.2.2.2.2.2.2.2
          have hfa : Ab.facts (drA (addA a t x y m v) t x y m) = a.facts + 1 := (drA_n (a := addA a t x y m v) t x y m).trans ad_n
          refine ⟨0, a.facts + 1, drA (addA a t x y m v) t x y m, ⟨Wb, Kb, by rw [hh]; exact h1, by rw [hh]; omega⟩, ?_, ?_⟩
          · unfold f_L_fact
            refine L_ok Wb ?_
            unfold f_C_fact
            refine ok_eqb (nC_y' W R h) ?_
            rw [if_pos rfl]
            refine ok_eqb (nR_y hv) ?_
            rw [if_pos rfl]
            refine ok_eqb (r_S_isPlain W R hc) ?_
            rw [bI_t hP, if_neg (by omega)]
            refine ok_bind (ok_eqb (r_MS_kindOf W R.2.2.2.2.2.1 h.2.2.2.1 h.2.2.2.2) ?_)
            rw [if_neg hk]
            refine ok_some (ok_eqb need1 ?_)
            rw [if_pos rfl]
            refine ok_call (e_FR_find W R.2.2.2.2.2.2 hc) (fun r hr => ?_)
            have er : r = -1 := by
              rcases hr with hr | hr
              · exact hr.1
              · exact absurd ⟨r, hr⟩ hx
            have hF0 : σ 101 0 = a.facts ∧ _ := R.2.2.2.2.2.2 0
            subst er
            rw [if_neg (by omega), hF0.1, if_neg (by omega)]
            refine ok_bind (ok_some (ok_eqb need1 ?_))
            rw [if_pos rfl, if_neg (by omega)]
            refine ok_bind (ok_mono (c_add W K I N) ?_)
            rintro s ⟨s1, s2, s3⟩
            exact ok_some ⟨rfl, s3, fun q q1 q2 => s2 q (by omega), IC_m Wb (fun _ _ => rfl) (by omega) s1⟩
          · intro σ' V1 VV1
            unfold f_M_fact
            refine ok_eqb (e_M_areThere W V1 t x y m) ?_
            rw [bI_t h]
            refine ok_call (P := fun r => r = -1) ?_ ?_
            · rw [if_neg (by omega)]
              refine ok_call (FND σ' V1) (fun r hr => ok_some ?_)
              rcases hr with hr | hr
              · exact hr.1
              · exact absurd ⟨r, hr⟩ hx
            rintro r rfl
            refine ok_call (mj7 σ' (-1) V1 (Or.inl ⟨rfl, fun f f0 f1 q => hx ⟨f, f0, f1, q⟩⟩)) ?_
            rintro q rfl
            rw [if_pos (by omega)]
            refine ok_bind (ok_eqb (e_M_in σ' v (-1000000) 1000000) ?_)
            rw [bI_t hv, if_pos (by omega), if_pos rfl]
            refine ok_some (ok_eqb (e_M_holds _ _) ?_)
            dsimp only
            rw [if_pos (by simp)]
            have V2 := Vw_50 V1 0
            have v0 : 1 ≤ σ' 129 38 ∧ σ' 129 38 ≤ B + 1 ∧ _ := VV1 0
            refine ok_call (e_M_put_add W V2 N (by rw [hs_nj (by omega)]; (first | omega | (unfold r32; omega) | (unfold r64; omega) | (simp only [r32, r64] at *; omega)))) ?_
            rintro s ⟨s1, s2, s3, s4⟩
            have e29 : s.2 129 29 = a.facts + 1 := by rw [w_facts s2]; exact hfa
            rw [e29]
            exact ok_some (MR_put V1 VV1 Wb s2 rfl s3 s4 _)
      · refine opt_er H 3 0 ?_ ?_
        · unfold f_L_fact
          refine ok_call (P := fun r => r = (3, 0, σ)) ?_ ?_
          · unfold f_C_fact
            refine ok_eqb (nC_y' W R h) ?_
            rw [if_pos rfl]
            refine ok_eqb (nR_y hv) ?_
            rw [if_pos rfl]
            refine ok_eqb (r_S_isPlain W R hc) ?_
            by_cases hP : isP a 0 t ∧ isP a 1 x ∧ isP a 2 y
            · rw [bI_t hP, if_neg (by omega)]
              refine ok_bind (ok_eqb (r_MS_kindOf W R.2.2.2.2.2.1 h.2.2.2.1 h.2.2.2.2) ?_)
              by_cases hk : a.mk m = 3
              · rw [if_pos hk]
                refine ok_some (ok_eqb need0 ?_)
                rw [if_neg (by omega)]
                exact ok_grd (by omega) (ok_some rfl)
              · rw [if_neg hk]
                refine ok_some (ok_eqb need1 ?_)
                rw [if_pos rfl]
                refine ok_call (e_FR_find W R.2.2.2.2.2.2 hc) (fun r hr => ?_)
                have hF0 : σ 101 0 = a.facts ∧ _ := R.2.2.2.2.2.2 0
                rcases hr with hr | hr
                · have hge : ¬ a.facts < 50 := fun q => hb ⟨hP, hk, Or.inr q⟩
                  rw [hr.1, if_neg (by omega), hF0.1, if_pos (by omega)]
                  refine ok_bind (ok_some (ok_eqb need0 ?_))
                  rw [if_neg (by omega)]
                  exact ok_grd (by omega) (ok_some rfl)
                · exact absurd ⟨hP, hk, Or.inl ⟨r, hr⟩⟩ hb
            · rw [bI_f hP, if_pos rfl]
              refine ok_bind (ok_some (ok_eqb need0 ?_))
              rw [if_neg (by omega)]
              exact ok_grd (by omega) (ok_some rfl)
          · rintro r rfl
            (rw [if_neg (by simp), if_neg (by simp), if_neg (by simp), if_pos rfl]; exact ok_some (LR_er W I (by omega) _ _ (by omega)))
        · intro σ' V1 VV1
          unfold f_M_fact
          refine ok_eqb (e_M_areThere W V1 t x y m) ?_
          rw [bI_t h]
          refine ok_call (P := fun r => (r = -1 ∧ ∀ f : Int, 0 ≤ f → f < a.facts → ¬ isF a t x y m f) ∨ (0 ≤ r ∧ r < a.facts ∧ isF a t x y m r)) ?_ ?_
          · rw [if_neg (by omega)]
            exact ok_call (FND σ' V1) (fun r hr => ok_some hr)
          intro r hr
          refine ok_call (P := fun q => q = 1) ?_ ?_
          · rw [if_neg (by omega)]
            refine ok_eqb (e_M_isPlain V1 iD0 (thr12 W iD0 hc.1)) ?_
            by_cases p0 : isP a 0 t
            · rw [bI_t p0, if_neg (by omega)]
              refine ok_eqb (e_M_isPlain V1 iD1 (thr12 W iD1 hc.2.1)) ?_
              by_cases p1 : isP a 1 x
              · rw [bI_t p1, if_neg (by omega)]
                refine ok_eqb (e_M_isPlain V1 iD2 (thr12 W iD2 hc.2.2)) ?_
                by_cases p2 : isP a 2 y
                · rw [bI_t p2, if_neg (by omega), w_mk V1, w_facts V1]
                  refine ok_grd ⟨h.2.2.2.1, m4⟩ (ok_ite (fun _ => ok_some rfl) (fun hk => ?_))
                  have hn : ¬ ((∃ f : Int, 0 ≤ f ∧ f < a.facts ∧ isF a t x y m f) ∨ a.facts < 50) := fun q => hb ⟨⟨p0, p1, p2⟩, hk, q⟩
                  rcases hr with hr | hr
                  · rw [if_neg (by omega), if_neg (by have : ¬ a.facts < 50 := fun q => hn (Or.inr q); omega)]; exact ok_some rfl
                  · exact absurd (Or.inl ⟨r, hr⟩) hn
                · rw [bI_f p2, if_pos rfl]; exact ok_some rfl
              · rw [bI_f p1, if_pos rfl]; exact ok_some rfl
            · rw [bI_f p0, if_pos rfl]; exact ok_some rfl
          rintro q rfl
          rw [if_pos (by omega)]
          refine ok_bind (ok_eqb (e_M_in σ' v (-1000000) 1000000) ?_)
          rw [bI_t hv, if_pos (by omega), if_neg (by omega)]
          refine ok_some ?_
          (refine ok_eqb (e_M_holds _ _) ?_; dsimp only; rw [if_neg (by simp)]; exact ok_some (MR_er V1 VV1 (by omega) _ _ _ (fun g => absurd g (by omega))))
    · refine opt_er H 2 0 ?_ ?_
      · unfold f_L_fact
        refine ok_eqb (v := (2, 0, σ)) ?_ ?_
        · unfold f_C_fact; apply ok_eq
          refine ok_eqb (nC_y' W R h) ?_
          rw [if_pos rfl]
          refine ok_eqb (nR_n hv) ?_
          rw [if_neg (by omega)]
          exact ok_grd (by omega) (ok_some rfl)
        · (rw [if_neg (by simp), if_neg (by simp), if_pos rfl]; exact ok_some (LR_er W I (by omega) _ _ (by omega)))
      · intro σ' V1 VV1
        unfold f_M_fact
        refine ok_eqb (e_M_areThere W V1 t x y m) ?_
        rw [bI_t h]
        refine ok_call (P := fun r => True) ?_ ?_
        · rw [if_neg (by omega)]
          exact ok_call (FND σ' V1) (fun r hr => ok_some trivial)
        intro r _
        refine ok_call (P := fun q => True) ?_ ?_
        · rw [if_neg (by omega)]
          refine ok_eqb (e_M_isPlain V1 iD0 (thr12 W iD0 hc.1)) (ok_ite (fun _ => ok_some trivial) (fun _ => ?_))
          refine ok_eqb (e_M_isPlain V1 iD1 (thr12 W iD1 hc.2.1)) (ok_ite (fun _ => ok_some trivial) (fun _ => ?_))
          refine ok_eqb (e_M_isPlain V1 iD2 (thr12 W iD2 hc.2.2)) (ok_ite (fun _ => ok_some trivial) (fun _ => ?_))
          exact ok_grd ⟨h.2.2.2.1, m4⟩ (ok_ite (fun _ => ok_some trivial) (fun _ => ok_ite (fun _ => ok_some trivial) (fun _ => ok_ite (fun _ => ok_some trivial) (fun _ => ok_some trivial))))
        intro q _
        rw [if_pos (by omega)]
        refine ok_bind (ok_eqb (e_M_in σ' v (-1000000) 1000000) ?_)
        rw [bI_f hv, if_neg (by omega)]
        refine ok_some ?_
        (refine ok_eqb (e_M_holds _ _) ?_; dsimp only; rw [if_neg (by simp)]; exact ok_some (MR_er V1 VV1 (by omega) _ _ _ (fun g => absurd g (by omega))))
  · refine opt_er H 1 0 ?_ ?_
    · unfold f_L_fact
      refine ok_eqb (v := (1, 0, σ)) ?_ ?_
      · unfold f_C_fact; apply ok_eq
        refine ok_eqb (nC_n' W R h) ?_
        rw [if_neg (by simp)]
        exact ok_grd (by simp) (ok_some rfl)
      · (rw [if_neg (by simp), if_pos rfl]; exact ok_some (LR_er W I (by omega) _ _ (by omega)))
    · intro σ' V1 VV1
      unfold f_M_fact
      refine ok_eqb (e_M_areThere W V1 t x y m) ?_
      rw [bI_f h, if_pos rfl]
      refine ok_bind (ok_some ?_)
      rw [if_pos rfl]
      refine ok_bind (ok_some ?_)
      rw [if_neg (by omega)]
      refine ok_bind (ok_some ?_)
      (refine ok_eqb (e_M_holds _ _) ?_; dsimp only; rw [if_neg (by simp)]; exact ok_some (MR_er V1 VV1 (by omega) _ _ _ (fun g => absurd g (by omega))))
end
