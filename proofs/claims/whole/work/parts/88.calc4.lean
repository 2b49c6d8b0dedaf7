section
variable {σ : Hp} {a a' b : Ab} {n : Nat} {B : Int} {e : Nat} {d o : Int}
/-- a call that makes an object -/
def LRn (σ : Hp) (n e : Nat) (a' : Ab) (B' code v : Int) (r : Int × Nat × Nat × Hp) : Prop := r.2.1 ≤ n + 4 ∧ LR σ e a' r.2.1 B' code v (r.1, r.2.2.1, r.2.2.2)
theorem op_calc (H : J σ a n B) (hB : B ≤ 100000) (d x : Int) : Okk (f_L_calculate σ n e d x) fun l => l.2.1 ≤ n + 4 ∧ l.2.2.1 ≤ e + 1 ∧ Okk (f_M_calculate l.2.2.2 d x) fun r => r.2 129 50 = l.1 ∧ (l.1 = 0 → r.2 170 0 = r.1) ∧ ∃ a', J r.2 a' l.2.1 (B + 60) := by
  -- it is enough to say what it comes to
  suffices O : ∃ (code v : Int) (a' : Ab) (n' : Nat), n' ≤ n + 4 ∧ gdA a' (B + 60) ∧ Okk (f_L_calculate σ n e d x) (fun r => r.2.1 = n' ∧ LR σ e a' n' (B + 60) code v (r.1, r.2.2.1, r.2.2.2)) ∧ ∀ σ' : Hp, Vw σ' a → ICV σ' a (B + 1) → Okk (f_M_calculate σ' d x) (MR σ' a' (B + 61) code v) by
    obtain ⟨code, v, a', n', hn, hg, ⟨l, el, l1, l2⟩, hM⟩ := O
    have O2 : OPT σ a n' B e (some (l.1, l.2.2.1, l.2.2.2)) (fun σ' => f_M_calculate σ' d x) := ⟨code, v, a', hg, ok_some l2, hM⟩
    obtain ⟨W, K, V, I, VV, h1, h2⟩ := H
    obtain ⟨W', K', q1, q2⟩ := hg
    obtain ⟨m1, m2, m3, m4, m5⟩ := l2
    refine ⟨l, el, by rw [l1]; exact hn, m3, ?_⟩
    have V' : Vw l.2.2.2 a := fun q j hq => by
      have : 129 ≤ q ∧ q ≤ 169 := by unfold vwP at hq; omega
      rw [show l.2.2.2 q = σ q from m4 q this.1 this.2]; exact V q j hq
    have VV' : ICV l.2.2.2 a (B + 1) := ICV_f VV (m4 161 (by omega) (by omega)) (m4 160 (by omega) (by omega)) (by rw [show l.2.2.2 129 = σ 129 from m4 129 (by omega) (by omega)]) (by rw [show l.2.2.2 129 = σ 129 from m4 129 (by omega) (by omega)]) (Int.le_refl _)
    refine ok_mono (hM l.2.2.2 V' VV') ?_
    rintro r ⟨r1, r2, r3, r4, r5⟩
    have m1' : l.1 = code := m1
    refine ⟨by rw [r1, m1'], fun h0 => ?_, a', W', K', r4, ?_, ?_, q1, q2⟩
    · rw [m1'] at h0
      rw [r3 170 (by omega), r2 h0]; exact m2 h0
    · rw [l1]; exact IC_m W' (fun q hq => r3 q (by omega)) (Int.le_refl _) m5
    · rw [show B + 60 + 1 = B + 61 by omega]; exact r5
  obtain ⟨W, K, V, I, VV, h1, h2⟩ := id H
  obtain ⟨R, IK, IW, I9⟩ := IC_r I
  have k0 : wrdOk a 36 := K 0
  have l0 : 0 ≤ a.len 36 ∧ a.len 36 ≤ 10 := ⟨k0.1, k0.2.1⟩
  obtain ⟨g1, g2, g3⟩ : fPt n (σ 0 6) ∧ fHd σ a (σ 0 6).toNat 36 ∧ σ (σ 0 6).toNat 1 = pilF a 36 (a.len 36).toNat := IW 0
  have P0 := (fPt_b g1).1
  have er : ∀ code : Int, code ≠ 0 → Okk (f_L_calculate σ n e d x) (fun r => r = (code, n, e + 1, σ)) → (∀ σ' : Hp, Vw σ' a → ICV σ' a (B + 1) → Okk (f_M_calculate σ' d x) (MR σ' a (B + 61) code 0)) → ∃ (code v : Int) (a' : Ab) (n' : Nat), n' ≤ n + 4 ∧ gdA a' (B + 60) ∧ Okk (f_L_calculate σ n e d x) (fun r => r.2.1 = n' ∧ LR σ e a' n' (B + 60) code v (r.1, r.2.2.1, r.2.2.2)) ∧ ∀ σ' : Hp, Vw σ' a → ICV σ' a (B + 1) → Okk (f_M_calculate σ' d x) (MR σ' a' (B + 61) code v) := by
    intro code hc hL hM
    refine ⟨code, 0, a, n, by omega, ⟨W, K, h1, by omega⟩, ok_mono hL ?_, hM⟩
    rintro r rfl
    exact ⟨rfl, LR_er W I (by omega) _ _ hc⟩
  by_cases hd : inD d
  · have hd' := inD_b hd
    have mb := many_b W hd
    have e0 : σ (dP d) 0 = a.many d := icr_d R hd 0
    -- the reference's first loop
    have ML : ∀ (σ' : Hp), Vw σ' a → Okk (f_M_calculate_12 σ' d 1 zFuel 1 0) fun r => r.1 = bI (lkA a (a.many d)) := by
      intro σ' V1
      have L := l_c12 V1 hd l0 zFuel 0 (by omega) l0.1 (by unfold zFuel; omega)
      rw [bI_t (P := ∀ j : Int, 0 ≤ j → j < 0 → a.what (10 * 36 + j) = 1 ∨ a.what (10 * 36 + j) = 2 → a.one (10 * 36 + j) < a.many d) (fun j j0 j1 => by omega)] at L
      exact L
    by_cases hx : 0 ≤ x ∧ x ≤ 100
    · by_cases hj : pilF a 36 (a.len 36).toNat = 1 ∧ lkA a (a.many d) ∧ a.many d < 12
      · obtain ⟨j1, j2, j3⟩ := hj
        have C : caC a d x := ⟨hd, j3, hx.1, hx.2⟩
        have W' := ca_W W C
        have eh : Ab.hits (caA a d x) = a.hits := ca_j (by omega)
        refine ⟨0, a.many d, caA a d x, n + 4, Nat.le_refl _, ⟨W', ca_K W K C j1 j2, by rw [eh]; exact h1, by rw [eh]; omega⟩, ?_, ?_⟩
        · have cc := c_calc W K I C (B' := B + 60) (by omega) (t := hset (hset (hset (hset (hset σ (dP d + 5) (a.many d) 2) (dP d) 0 (a.many d + 1)) (dP d + 11) (a.many d) (σ 0 6)) (dP d + 9) (a.many d) x) (dP d + 15) (a.many d) 1) rfl
          unfold f_L_calculate
          refine ok_eqb (v := (0, a.many d, n + 4, hset (hset (zFormula (hset (hset (hset (hset (hset σ (dP d + 5) (a.many d) 2) (dP d) 0 (a.many d + 1)) (dP d + 11) (a.many d) (σ 0 6)) (dP d + 9) (a.many d) x) (dP d + 15) (a.many d) 1) n) 0 6 n) 108 0 0)) ?_ ?_
          · unfold f_C_calculate; apply ok_eq
            refine ok_eqb (nX_y hd) ?_
            rw [if_pos rfl]
            refine ok_eqb (nR_y hx) ?_
            rw [if_pos rfl, g3, if_neg (by omega)]
            dsimp only
            rw [e0]
            refine ok_grd P0 (ok_bind (ok_grd P0 (ok_eqb (c_looks K IW (a.many d)) ?_)))
            rw [bI_f (fun z => z j2), if_neg (by omega), if_neg (by omega)]
            refine ok_some (ok_eqb need1 ?_)
            rw [if_pos rfl]
            refine ok_eqb (c_addCalc W R hd j3 P0 x) ?_
            dsimp only
            refine ok_grd (by omega) (ok_eqb (e_K_dropAll _) (ok_some rfl))
          · dsimp only
            rw [if_pos rfl]
            refine ok_grd (by omega) (ok_some ⟨rfl, rfl, fun _ => by dsimp only; exact hs_eq, Nat.le_succ _, fun q q1 q2 => ?_, IC_m W' (fun q hq => hset_ne (by omega)) (Int.le_refl _) cc.2⟩)
            dsimp only; rw [hset_ne (by omega)]; exact cc.1 q q1 q2
        · intro σ' V1 VV1
          have V2 := Vw_50 V1 0
          have e130 : σ' 130 d = a.many d := w_many V1 d
          unfold f_M_calculate
          refine ok_eqb (e_M_isDim σ' d) ?_
          rw [bI_t hd']
          refine ok_call (ML σ' V1) ?_
          intro j hj'
          rw [hj', bI_t j2, if_pos (by omega), e130]
          refine ok_bind (ok_eqb (e_M_in σ' x 0 100) ?_)
          rw [bI_t hx, if_pos (by omega)]
          refine ok_eqb (e_M_pileOf V1 l0) ?_
          rw [if_neg (by omega), if_neg (by omega)]
          refine ok_grd (by omega) ?_
          rw [if_pos (by omega)]
          refine ok_some (ok_eqb (e_M_holds _ _) ?_)
          dsimp only
          rw [if_pos (by simp)]
          refine ok_eqb (e_M_make V2 hd (by omega) j3 2) ?_
          dsimp only
          refine ok_grd (by (first | omega | (unfold r32; omega) | (unfold r64; omega) | (simp only [r32, r64] at *; omega))) (ok_grd (by (first | omega | (unfold r32; omega) | (unfold r64; omega) | (simp only [r32, r64] at *; omega))) (ok_grd (by omega) ?_))
          have V3 : Vw (hset (hset (hset (hset σ' 129 50 0) 130 d (a.many d + 1)) 131 (12 * d + a.many d) 2) 135 (12 * d + a.many d) x) (caX a d x) := Vw_s (Vw_s (Vw_s V2 (q := 130) (i := d) (v := a.many d + 1)) (q := 131) (i := 12 * d + a.many d) (v := 2)) (q := 135) (i := 12 * d + a.many d) (v := x)
          have E : ∀ q : Nat, q < 129 ∨ 135 < q → (hset (hset (hset (hset σ' 129 50 0) 130 d (a.many d + 1)) 131 (12 * d + a.many d) 2) 135 (12 * d + a.many d) x) q = σ' q := fun q hq => by rw [hset_ne (by omega), hset_ne (by omega), hset_ne (by omega), hset_ne (by omega)]
          have E9 : (hset (hset (hset (hset σ' 129 50 0) 130 d (a.many d + 1)) 131 (12 * d + a.many d) 2) 135 (12 * d + a.many d) x) 129 = hset σ' 129 50 0 129 := by rw [hset_ne (by omega), hset_ne (by omega), hset_ne (by omega)]
          have L := l_185 (v41 := (a.many d, hset (hset (hset σ' 129 50 0) 130 d (a.many d + 1)) 131 (12 * d + a.many d) 2)) (m := a.many d) rfl hd (by omega) j3 (t := hset (hset (hset (hset σ' 129 50 0) 130 d (a.many d + 1)) 131 (12 * d + a.many d) 2) 135 (12 * d + a.many d) x) zFuel 0 (by omega) (by omega) (by unfold zFuel; omega)
          rw [kw_0] at L
          refine ok_eqb L ?_
          dsimp only
          generalize (hset (hset (hset (hset σ' 129 50 0) 130 d (a.many d + 1)) 131 (12 * d + a.many d) 2) 135 (12 * d + a.many d) x) = t at V3 E E9 ⊢
          have V4 : Vw (kwS t (12 * d + a.many d) 10) (kwS (caX a d x) (12 * d + a.many d) 10) := by
            intro q j hq
            by_cases g : 137 ≤ q ∧ q ≤ 139 ∧ 10 * (12 * d + a.many d) ≤ j ∧ j < 10 * (12 * d + a.many d) + 10
            · rw [kw_v ⟨g.1, g.2.1⟩ g.2.2, kw_v ⟨g.1, g.2.1⟩ g.2.2]; exact V3 q _ (by unfold vwP; omega)
            · unfold kwS; rw [if_neg g, if_neg g]; exact V3 q j hq
          have el : kwS t (12 * d + a.many d) 10 140 36 = a.len 36 := by
            rw [kw_q (by omega), E 140 (by omega)]; exact w_len V1 36
          rw [el]
          have V5 : Vw (hset (hset (kwS t (12 * d + a.many d) 10) 140 (12 * d + a.many d) (a.len 36)) 140 36 0) (caB a d x) := Vw_s (Vw_s V4)
          refine ok_grd (by omega) (ok_grd (by omega) (ok_grd (by omega) ?_))
          refine ok_call (M_frs V1 VV1 hB V5 W' ?_ ?_ ?_ ?_ ?_ (a.many d)) (fun r hr => ok_some hr)
          · rw [hset_ne (by omega), hset_ne (by omega), kw_q (by omega)]; exact E 161 (by omega)
          · rw [hset_ne (by omega), hset_ne (by omega), kw_q (by omega), E9, hs_nj (by omega)]
          · rw [hset_ne (by omega), hset_ne (by omega), kw_q (by omega), E9, hs_nj (by omega)]
          · intro q hq; rw [hset_ne (by omega), hset_ne (by omega), kw_q (by omega)]; exact E q (by omega)
          · rw [hset_ne (by omega), hset_ne (by omega), kw_q (by omega), E9, hs_eq]
      · refine er 3 (by omega) ?_ ?_
        · unfold f_L_calculate
          refine ok_eqb (v := (3, 0, n, σ)) ?_ ?_
          · unfold f_C_calculate; apply ok_eq
            refine ok_eqb (nX_y hd) ?_
            rw [if_pos rfl]
            refine ok_eqb (nR_y hx) ?_
            rw [if_pos rfl, g3]
            dsimp only
            rw [e0]
            refine ok_grd P0 (ok_call (P := fun j => j = 0) ?_ ?_)
            · refine ok_ite (fun _ => ok_some rfl) (fun q1 => ok_grd P0 (ok_eqb (c_looks K IW (a.many d)) (ok_ite (fun _ => ok_some rfl) (fun q2 => ok_ite (fun _ => ok_some rfl) (fun q3 => absurd ⟨by omega, ?_, by omega⟩ hj)))))
              exact Classical.byContradiction (fun z => q2 (by rw [bI_t z]; omega))
            rintro j rfl
            refine ok_eqb need0 ?_
            rw [if_neg (by omega)]
            exact ok_grd (by omega) (ok_some rfl)
          · dsimp only
            rw [if_neg (by omega), if_neg (by omega), if_neg (by omega), if_pos rfl]; exact ok_some rfl
        · intro σ' V1 VV1
          have e130 : σ' 130 d = a.many d := w_many V1 d
          unfold f_M_calculate
          refine ok_eqb (e_M_isDim σ' d) ?_
          rw [bI_t hd']
          refine ok_call (ML σ' V1) ?_
          intro j hj'
          rw [hj', if_pos (by omega), e130]
          refine ok_call (P := fun j => j = 3) ?_ ?_
          · refine ok_eqb (e_M_in σ' x 0 100) ?_
            rw [bI_t hx, if_pos (by omega)]
            refine ok_eqb (e_M_pileOf V1 l0) (ok_ite (fun _ => ok_some rfl) (fun q1 => ok_ite (fun _ => ok_some rfl) (fun q2 => ok_grd (by omega) (ok_ite (fun q3 => absurd ⟨by omega, ?_, by omega⟩ hj) (fun _ => ok_some rfl)))))
            exact Classical.byContradiction (fun z => q2 (bI_f z))
          rintro j rfl
          (refine ok_eqb (e_M_holds _ _) ?_; dsimp only; rw [if_neg (by simp)]; exact ok_some (MR_er V1 VV1 (by omega) _ _ _ (fun g => absurd g (by omega))))
    · refine er 2 (by omega) ?_ ?_
      · unfold f_L_calculate
        refine ok_eqb (v := (2, 0, n, σ)) ?_ ?_
        · unfold f_C_calculate; apply ok_eq
          refine ok_eqb (nX_y hd) ?_
          rw [if_pos rfl]
          refine ok_eqb (nR_n hx) ?_
          rw [if_neg (by omega)]
          exact ok_grd (by omega) (ok_some rfl)
        · dsimp only
          rw [if_neg (by omega), if_neg (by omega), if_pos rfl]; exact ok_some rfl
      · intro σ' V1 VV1
        unfold f_M_calculate
        refine ok_eqb (e_M_isDim σ' d) ?_
        rw [bI_t hd']
        refine ok_call (ML σ' V1) ?_
        intro j hj'
        rw [if_pos (by omega)]
        refine ok_bind (ok_eqb (e_M_in σ' x 0 100) ?_)
        rw [bI_f hx, if_neg (by omega)]
        refine ok_some ?_
        (refine ok_eqb (e_M_holds _ _) ?_; dsimp only; rw [if_neg (by simp)]; exact ok_some (MR_er V1 VV1 (by omega) _ _ _ (fun g => absurd g (by omega))))
  · refine er 1 (by omega) ?_ ?_
    · unfold f_L_calculate
      refine ok_eqb (v := (1, 0, n, σ)) ?_ ?_
      · unfold f_C_calculate; apply ok_eq
        refine ok_eqb (nX_n hd) ?_
        rw [if_neg (by simp)]
        exact ok_grd (by simp) (ok_some rfl)
      · dsimp only
        rw [if_neg (by omega), if_pos rfl]; exact ok_some rfl
    · intro σ' V1 VV1
      unfold f_M_calculate
      refine ok_eqb (e_M_isDim σ' d) ?_
      rw [bI_f (fun q => hd (inD_of q))]
      refine ok_call (P := fun _ => True) ?_ ?_
      · unfold zFuel f_M_calculate_12
        refine ok_grd (by omega) (ok_ite (fun _ => ok_some trivial) (fun _ => ?_))
        rw [if_pos rfl]; exact ok_some trivial
      intro j _
      rw [if_neg (by omega)]
      refine ok_bind (ok_some ?_)
      (refine ok_eqb (e_M_holds _ _) ?_; dsimp only; rw [if_neg (by simp)]; exact ok_some (MR_er V1 VV1 (by omega) _ _ _ (fun g => absurd g (by omega))))
end
