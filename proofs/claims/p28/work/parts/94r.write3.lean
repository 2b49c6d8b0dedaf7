noncomputable def wcK (v23 : Hp) (c m v h : Int) : Option (Nat × Int × Hp) := if (v23 116 9) ≠ 0 then (f_R_allWeighOne v23).bind fun v25 => (f_C_need v23 v25).bind fun v27 => if v27 = 0 then (f_SP_start v23 (v23 116 9) v).bind fun v30 => (f_C_write_176 zFuel 0 v30).bind fun j43 => (f_SP_share j43.2 h).bind fun v45 => (f_SP_inRange v45).bind fun v47 => (f_C_need v45 v47).bind fun v49 => if v49 = 0 then (f_C_writeShares v45).bind fun v52 => some (0, v52.1, v52.2) else grd (v49 ≤ 3) <| some (v49, 0, v45) else grd (v27 ≤ 3) <| some (v27, 0, v23) else (f_S_isPlain v23 c).bind fun v56 => (if v56 = 0 then some 0 else if 50 ≤ (v23 101 0) then some 0 else some 1 : Option (Int)).bind fun j58 => (f_C_need v23 j58).bind fun v61 => if v61 = 0 then (f_FR_add v23 c m v).bind fun v64 => (f_C_dropFor v64 c m).bind fun v66 => some (0, 1, v66) else grd (v61 ≤ 3) <| some (v61, 0, v23)
/-! ===== write ===== -/
section
variable {σ : Hp} {a a' b : Ab} {n : Nat} {B : Int} {e : Nat} {t x y m v h : Int}
/-- what is written may be -/
def wOk (a : Ab) (t x y m : Int) : Prop := a.mk m = 0 ∧ (seeP a 0 t ∧ seeP a 1 x ∧ seeP a 2 y) ∧ lead a t x y = -1
def wRg (v h : Int) : Prop := (0 ≤ v ∧ v ≤ 1000000) ∧ (0 ≤ h ∧ h ≤ 2)
theorem lead_k (W : WFA a) (hc : cin a t x y) : lead a t x y = -1 ↔ a.kind t ≠ 2 ∧ a.kind (12 + x) ≠ 2 ∧ a.kind (24 + y) ≠ 2 := by
  rcases lead_d W hc with ⟨l0, l1, l2, l3⟩ | ⟨l0, l1, l2⟩
  · rw [show 12 * 0 + t = t by omega] at l1
    rw [show 12 * 1 + x = 12 + x by omega] at l2
    rw [show 12 * 2 + y = 24 + y by omega] at l3
    exact ⟨fun _ => ⟨l1, l2, l3⟩, fun _ => l0⟩
  · refine ⟨fun q => by omega, fun q => ?_⟩
    rcases l0 with z | z | z
    · rw [z, show crd 0 t x y = t by simp [crd], show 12 * 0 + t = t by omega] at l2; exact absurd l2 q.1
    · rw [z, show crd 1 t x y = x by simp [crd], show 12 * 1 + x = 12 + x by omega] at l2; exact absurd l2 q.2.1
    · rw [z, show crd 2 t x y = y by simp [crd], show 12 * 2 + y = 24 + y by omega] at l2; exact absurd l2 q.2.2
/-- the class's calls that change no cell of its own -/
def wsc (σ s : Hp) : Prop := (∀ q : Nat, q < 112 ∨ (117 ≤ q ∧ q ≤ 120) ∨ 124 ≤ q → s q = σ q) ∧ s 116 4 = σ 116 4
theorem IC_w (W : WFA a) (I : IC σ a n B) {s : Hp} (H : wsc σ s) : IC s a n B := by
  obtain ⟨R, IK, IW, I9⟩ := IC_r I
  refine IC_mk (ICR_f W (fun q hq => H.1 q (by omega)) R) (ICK_f (fun q q1 q2 => H.1 q (by omega)) IK) (ICW_f (fun q hq => H.1 q (by omega)) IW) ?_
  unfold ic9 at I9 ⊢
  rw [H.2, H.1 117 (by omega)]; exact I9
theorem gch_w {s : Hp} (H : gch σ s) : wsc σ s := ⟨fun q hq => H.1 q (by omega) (by omega) (by omega) (by omega), H.2 4 (by omega)⟩
theorem c_w_pre (J0 : J σ a n B) (T : mem4 a t x y m) (G : wRg v h) (O : wOk a t x y m) {Q : Nat × Int × Hp → Prop} (K : ∀ s : Hp, gch σ s → gth s (cnf a m t x y) (fun f => a.place (a.ft f)) a.facts.toNat → Okk (wcK s (clq t x y) m v h) Q) : Okk (f_C_write σ t x y m v h) Q := by
  obtain ⟨W, K0, V, I, VV, h1, h2⟩ := id J0
  obtain ⟨R, IK, IW, I9⟩ := IC_r I
  have hc : cin a t x y := ⟨T.1, T.2.1, T.2.2.1⟩
  unfold f_C_write
  refine ok_eqb (nC_y' W R T) ?_
  rw [if_pos rfl]
  refine ok_eqb (nR_y G.1) ?_
  rw [if_pos rfl]
  refine ok_eqb (nR_y G.2) ?_
  rw [if_pos rfl]
  refine ok_eqb (r_MS_kindOf W R.2.2.2.2.2.1 T.2.2.2.1 T.2.2.2.2) ?_
  refine ok_call (P := fun j => j = 1) ?_ ?_
  · refine ok_ite (fun q => absurd O.1 q) (fun _ => ?_)
    refine ok_eqb (r_S_isSeen W R hc) ?_
    rw [bI_t O.2.1, if_neg (by omega)]
    refine ok_eqb (r_S_isCalculated W R hc) ?_
    rw [bI_f (by have := O.2.2; omega), if_neg (by omega)]
    exact ok_some rfl
  rintro j rfl
  refine ok_eqb need1 ?_
  rw [if_pos rfl]
  refine ok_call (c_gather W hc O.2.2 R) ?_
  rintro s ⟨s1, s2⟩
  exact K s s1 s2
theorem c_w_3 (J0 : J σ a n B) (T : mem4 a t x y m) (G : wRg v h) (O : ¬ wOk a t x y m) : f_C_write σ t x y m v h = some (3, 0, σ) := by
  obtain ⟨W, K0, V, I, VV, h1, h2⟩ := id J0
  obtain ⟨R, IK, IW, I9⟩ := IC_r I
  have hc : cin a t x y := ⟨T.1, T.2.1, T.2.2.1⟩
  unfold f_C_write
  apply ok_eq
  refine ok_eqb (nC_y' W R T) ?_
  rw [if_pos rfl]
  refine ok_eqb (nR_y G.1) ?_
  rw [if_pos rfl]
  refine ok_eqb (nR_y G.2) ?_
  rw [if_pos rfl]
  refine ok_eqb (r_MS_kindOf W R.2.2.2.2.2.1 T.2.2.2.1 T.2.2.2.2) ?_
  refine ok_call (P := fun j => j = 0) ?_ ?_
  · refine ok_ite (fun q => ok_some rfl) (fun q0 => ?_)
    refine ok_eqb (r_S_isSeen W R hc) ?_
    by_cases q1 : seeP a 0 t ∧ seeP a 1 x ∧ seeP a 2 y
    · rw [bI_t q1, if_neg (by omega)]
      refine ok_eqb (r_S_isCalculated W R hc) ?_
      by_cases q2 : 0 ≤ lead a t x y
      · rw [bI_t q2, if_pos (by omega)]; exact ok_some rfl
      · have l : lead a t x y = -1 := by
          rcases lead_d W hc with l | l
          · exact l.1
          · exact absurd l.2.1 q2
        exact absurd ⟨Classical.not_not.mp q0, q1, l⟩ O
    · rw [bI_f q1, if_pos rfl]; exact ok_some rfl
  rintro j rfl
  refine ok_eqb need0 ?_
  rw [if_neg (by omega)]
  exact ok_grd (by omega) (ok_some rfl)
/-- the cell's facts may be spread on: where the class stands then -/
theorem c_w_sp (J0 : J σ a n B) (T : mem4 a t x y m) (G : wRg v h) (N0 : 0 < wN a m t x y) (O1 : wOne a m t x y) {s : Hp} (s1 : gch σ s) (s2 : gth s (cnf a m t x y) (fun f => a.place (a.ft f)) a.facts.toNat) {Q : Nat × Int × Hp → Prop} (K : ∀ u : Hp, wsc σ u → u 116 9 = wN a m t x y → (∀ i : Int, 0 ≤ i → i < wN a m t x y → u 121 i = wS a m t x y i) → u 112 0 = wN a m t x y → (∀ i : Int, 0 ≤ i → i < wN a m t x y → u 114 i = shr (fun i => a.fv (wS a m t x y i)) (wN a m t x y) v h i) → Okk ((f_SP_inRange u).bind fun v47 => (f_C_need u v47).bind fun v49 => if v49 = 0 then (f_C_writeShares u).bind fun v52 => some (0, v52.1, v52.2) else grd (v49 ≤ 3) <| some (v49, 0, u)) Q) : Okk (wcK s (clq t x y) m v h) Q := by
  obtain ⟨W, K0, V, I, VV, h1, h2⟩ := id J0
  obtain ⟨R, IK, IW, I9⟩ := IC_r I
  have N1 := wN_50 (m := m) (t := t) (x := x) (y := y) W
  have g := gth_w W s2
  unfold wcK
  refine ok_ite (fun _ => ?_) (fun q => by rw [g.1] at q; omega)
  refine ok_eqb (c_allWeigh W g.1 (fun i i0 i1 => (g.2 i i0 i1).2)) ?_
  rw [bI_t O1]
  refine ok_eqb need1 ?_
  rw [if_pos rfl]
  refine ok_eqb (v := hset (hset s 112 0 (wN a m t x y)) 112 1 v) ?_ ?_
  · unfold f_SP_start; rw [g.1, show min ((wN a m t x y : Nat) : Int) 50 = wN a m t x y by omega]
  have E0 : ∀ q : Nat, q ≠ 112 → (hset (hset s 112 0 (wN a m t x y)) 112 1 v) q = s q := fun q q1 => by rw [hset_ne q1, hset_ne q1]
  have HF : ICF (hset (hset s 112 0 (wN a m t x y)) 112 1 v) a := ICF_e (fun q q1 q2 => by rw [E0 q (by omega)]; exact s1.1 q (by omega) (by omega) (by omega) (by omega)) R.2.2.2.2.2.2
  refine ok_call (c_own (m := m) (t := t) (x := x) (y := y) W HF (by rw [E0 116 (by omega)]; exact g.1) (fun i i0 i1 => by rw [E0 121 (by omega)]; exact (g.2 i i0 i1).1) (by rw [hs_nj (by omega), hs_eq])) ?_
  rintro r ⟨r1, r2⟩
  have SC : spC r.2 (fun i => a.fv (wS a m t x y i)) (wN a m t x y) v := by
    refine ⟨by rw [r1 112 (by omega), hs_nj (by omega), hs_eq], by rw [r1 112 (by omega), hs_eq], r2, ⟨N0, N1⟩, G.1, fun i i0 i1 => ?_⟩
    obtain ⟨f, f1, f2, f3, f4, f5, f6⟩ := wS_r W i0 i1
    dsimp only; rw [f4]; exact f6
  refine ok_call (c_share SC G.2) ?_
  rintro u ⟨u1, u2⟩
  have SU := spC_s SC u1
  refine K u ⟨fun q hq => ?_, ?_⟩ ?_ (fun i i0 i1 => ?_) SU.1 u2
  · rw [u1 q (by omega) (by omega), r1 q (by omega), E0 q (by omega)]; exact (gch_w s1).1 q hq
  · rw [u1 116 (by omega) (by omega), r1 116 (by omega), E0 116 (by omega)]; exact (gch_w s1).2
  · rw [u1 116 (by omega) (by omega), r1 116 (by omega), E0 116 (by omega)]; exact g.1
  · rw [u1 121 (by omega) (by omega), r1 121 (by omega), E0 121 (by omega)]; exact (g.2 i i0 i1).1
/-- the shares may be -/
def wIn (a : Ab) (m t x y v h : Int) : Prop := ∀ i : Int, 0 ≤ i → i < wN a m t x y → -1000000 ≤ shr (fun i => a.fv (wS a m t x y i)) (wN a m t x y) v h i ∧ shr (fun i => a.fv (wS a m t x y i)) (wN a m t x y) v h i ≤ 1000000
theorem c_w_bad (J0 : J σ a n B) (T : mem4 a t x y m) (G : wRg v h) (O : wOk a t x y m) (O1 : ¬ wOne a m t x y) : Okk (f_C_write σ t x y m v h) fun r => r.1 = 3 ∧ wsc σ r.2.2 := by
  obtain ⟨W, K0, V, I, VV, h1, h2⟩ := id J0
  refine c_w_pre J0 T G O (fun s s1 s2 => ?_)
  have g := gth_w W s2
  have N0 : wN a m t x y ≠ 0 := fun z => O1 (fun i i0 i1 => by omega)
  unfold wcK
  refine ok_ite (fun _ => ?_) (fun q => by rw [g.1] at q; omega)
  refine ok_eqb (c_allWeigh W g.1 (fun i i0 i1 => (g.2 i i0 i1).2)) ?_
  rw [bI_f O1]
  refine ok_eqb need0 ?_
  rw [if_neg (by omega)]
  exact ok_grd (by omega) (ok_some ⟨rfl, gch_w s1⟩)
theorem c_w_rng (J0 : J σ a n B) (T : mem4 a t x y m) (G : wRg v h) (O : wOk a t x y m) (O1 : wOne a m t x y) (N0 : 0 < wN a m t x y) (hi : ¬ wIn a m t x y v h) : Okk (f_C_write σ t x y m v h) fun r => r.1 = 3 ∧ wsc σ r.2.2 := by
  obtain ⟨W, K0, V, I, VV, h1, h2⟩ := id J0
  refine c_w_pre J0 T G O (fun s s1 s2 => c_w_sp J0 T G N0 O1 s1 s2 (fun u u1 u2 u3 u4 u5 => ?_))
  refine ok_eqb (show f_SP_inRange u = some (bI (wIn a m t x y v h)) from c_inRange u4 (wN_50 W) u5) ?_
  rw [bI_f hi]
  refine ok_eqb need0 ?_
  rw [if_neg (by omega)]
  exact ok_grd (by omega) (ok_some ⟨rfl, u1⟩)
theorem c_w_set (J0 : J σ a n B) (T : mem4 a t x y m) (G : wRg v h) (O : wOk a t x y m) (O1 : wOne a m t x y) (N0 : 0 < wN a m t x y) (hi : wIn a m t x y v h) : Okk (f_C_write σ t x y m v h) fun r => r.1 = 0 ∧ r.2.1 = pC a (wS a m t x y) (shr (fun i => a.fv (wS a m t x y i)) (wN a m t x y) v h) (wN a m t x y) ∧ (∀ q : Nat, 129 ≤ q → (q ≤ 169 ∨ 1048576 ≤ q) → r.2.2 q = σ q) ∧ IC r.2.2 (pA a (wS a m t x y) (shr (fun i => a.fv (wS a m t x y i)) (wN a m t x y) v h) (wN a m t x y)) n (B + 60) := by
  obtain ⟨W, K0, V, I, VV, h1, h2⟩ := id J0
  refine c_w_pre J0 T G O (fun s s1 s2 => c_w_sp J0 T G N0 O1 s1 s2 (fun u u1 u2 u3 u4 u5 => ?_))
  refine ok_eqb (show f_SP_inRange u = some (bI (wIn a m t x y v h)) from c_inRange u4 (wN_50 W) u5) ?_
  rw [bI_t hi]
  refine ok_eqb need1 ?_
  rw [if_pos rfl]
  refine ok_call (c_wShares W K0 hi (IC_w W I u1) u2 u3 u4 u5) ?_
  rintro r ⟨r1, r2, r3⟩
  exact ok_some ⟨rfl, r1, fun q q1 q2 => (r3 q (by omega)).trans (u1.1 q (by omega)), IC_m (pA_W W K0 _ hi).1 (fun _ _ => rfl) (by omega) r2⟩
theorem c_w_pl (J0 : J σ a n B) (T : mem4 a t x y m) (G : wRg v h) (O : wOk a t x y m) (N0 : wN a m t x y = 0) (hp : ¬ ((isP a 0 t ∧ isP a 1 x ∧ isP a 2 y) ∧ a.facts < 50)) : Okk (f_C_write σ t x y m v h) fun r => r.1 = 3 ∧ wsc σ r.2.2 := by
  obtain ⟨W, K0, V, I, VV, h1, h2⟩ := id J0
  have hc : cin a t x y := ⟨T.1, T.2.1, T.2.2.1⟩
  refine c_w_pre J0 T G O (fun s s1 s2 => ?_)
  have g := gth_w W s2
  have Rs := (IC_r (IC_w W I (gch_w s1))).1
  have hF0 : s 101 0 = a.facts ∧ _ := Rs.2.2.2.2.2.2 0
  unfold wcK
  refine ok_ite (fun q => by rw [g.1] at q; omega) (fun _ => ?_)
  refine ok_eqb (r_S_isPlain W Rs hc) ?_
  refine ok_call (P := fun j => j = 0) ?_ ?_
  · by_cases q : isP a 0 t ∧ isP a 1 x ∧ isP a 2 y
    · rw [bI_t q, if_neg (by omega), hF0.1, if_pos (by have : ¬ a.facts < 50 := fun w => hp ⟨q, w⟩; omega)]; exact ok_some rfl
    · rw [bI_f q, if_pos rfl]; exact ok_some rfl
  rintro j rfl
  refine ok_eqb need0 ?_
  rw [if_neg (by omega)]
  exact ok_grd (by omega) (ok_some ⟨rfl, gch_w s1⟩)
theorem wt_1 {d k u : Int} : wt a d k k u = 1 := by
  unfold wt
  cases k.toNat with
  | zero => exact if_pos rfl
  | succ F => exact if_pos rfl
theorem w_newF (W : WFA a) (T : mem4 a t x y m) (G : wRg v h) (O : wOk a t x y m) (N0 : wN a m t x y = 0) (hp : (isP a 0 t ∧ isP a 1 x ∧ isP a 2 y) ∧ a.facts < 50) : newF a t x y m v := by
  refine ⟨⟨T.1, T.2.1, T.2.2.1⟩, hp.1, ⟨T.2.2.2.1, T.2.2.2.2, by rw [O.1]; omega⟩, ⟨by have := G.1; omega, G.1.2⟩, hp.2, fun f f0 f1 q => ?_⟩
  have e : nC (cnf a m t x y) a.facts.toNat = 0 := by rw [← wN_e, N0]; rfl
  have c0 := nC_0 e f.toNat (by omega)
  rw [show ((f.toNat : Nat) : Int) = f by omega] at c0
  have w0 : wgt a 0 t t (until_ a t) = 1 := by unfold wgt; rw [if_pos hp.1.1]; exact wt_1
  have w1 : wgt a 1 x x (until_ a t) = 1 := by unfold wgt; rw [if_pos hp.1.2.1]; exact wt_1
  have w2 : wgt a 2 y y (until_ a t) = 1 := by unfold wgt; rw [if_pos hp.1.2.2]; exact wt_1
  unfold cnf at c0
  rw [if_pos q.2.2.2, q.1, q.2.1, q.2.2.1] at c0
  unfold cnt at c0
  rw [w0, w1, w2, if_neg (fun z => by
    rcases z with z | z | z | z
    · omega
    · omega
    · omega
    · exact z.2 O.2.1)] at c0
  omega
theorem c_w_add (J0 : J σ a n B) (T : mem4 a t x y m) (G : wRg v h) (O : wOk a t x y m) (N0 : wN a m t x y = 0) (hp : (isP a 0 t ∧ isP a 1 x ∧ isP a 2 y) ∧ a.facts < 50) : Okk (f_C_write σ t x y m v h) fun r => r.1 = 0 ∧ r.2.1 = 1 ∧ (∀ q : Nat, 129 ≤ q → (q ≤ 169 ∨ 1048576 ≤ q) → r.2.2 q = σ q) ∧ IC r.2.2 (drA (addA a t x y m v) t x y m) n (B + 60) := by
  obtain ⟨W, K0, V, I, VV, h1, h2⟩ := id J0
  have hc : cin a t x y := ⟨T.1, T.2.1, T.2.2.1⟩
  have NF := w_newF W T G O N0 hp
  have Wb := drA_W (ad_W W NF) t x y m
  refine c_w_pre J0 T G O (fun s s1 s2 => ?_)
  have g := gth_w W s2
  have Is := IC_w W I (gch_w s1)
  have Rs := (IC_r Is).1
  have hF0 : s 101 0 = a.facts ∧ _ := Rs.2.2.2.2.2.2 0
  unfold wcK
  refine ok_ite (fun q => by rw [g.1] at q; omega) (fun _ => ?_)
  refine ok_eqb (r_S_isPlain W Rs hc) ?_
  rw [bI_t hp.1]
  refine ok_call (P := fun j => j = 1) ?_ ?_
  · rw [if_neg (by omega), hF0.1, if_neg (by omega)]; exact ok_some rfl
  rintro j rfl
  refine ok_eqb need1 ?_
  rw [if_pos rfl]
  have A := c_add W K0 Is NF
  obtain ⟨u, eu, u1, u2, u3⟩ := A
  cases hA : f_FR_add s (clq t x y) m v with
  | none => rw [hA] at eu; cases eu
  | some w =>
    rw [hA] at eu
    refine ok_bind (ok_some ?_)
    cases hD : f_C_dropFor w (clq t x y) m with
    | none =>
      have eu2 : ((f_C_dropFor w (clq t x y) m).bind fun v31 => some v31) = some u := eu
      rw [hD] at eu2; cases eu2
    | some z =>
      have eu2 : ((f_C_dropFor w (clq t x y) m).bind fun v31 => some v31) = some u := eu
      rw [hD] at eu2
      have ez : z = u := Option.some.inj eu2
      subst ez
      exact ok_bind (ok_some (ok_some ⟨rfl, rfl, fun q q1 q2 => (u2 q (by omega)).trans ((gch_w s1).1 q (by omega)), IC_m Wb (fun _ _ => rfl) (by omega) u1⟩))
end
