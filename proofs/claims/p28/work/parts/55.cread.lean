/-! ===== readers of the class, of all of it ===== -/
def ICR (σ : Hp) (a : Ab) : Prop := ICD σ a 2 0 ∧ ICD σ a 32 1 ∧ ICD σ a 62 2 ∧ ICT σ a ∧ (σ 1 4 = a.asNow ∧ σ 1 5 = a.leave) ∧ ICM σ a ∧ ICF σ a
def clq (t x y : Int) : Int := 144 * t + 12 * x + y
theorem ICR_f {σ σ' : Hp} {a : Ab} (W : WFA a) (h : ∀ q : Nat, q < 108 → σ' q = σ q) (H : ICR σ a) : ICR σ' a := by
  obtain ⟨h0, h1, h2, h3, h4, h5, h6⟩ := H
  refine ⟨ICD_f W (fun q _ _ => h q (by omega)) h0, ICD_f W (fun q _ _ => h q (by omega)) h1, ICD_f W (fun q _ _ => h q (by omega)) h2, ?_, ?_, ?_, ?_⟩
  · intro k
    match k with
    | 0 => exact ict_c0 (h 92 (by omega)) (h 93 (by omega)) (h3 0)
    | 1 => exact ict_c1 (h 94 (by omega)) (h3 1)
    | _ + 2 => trivial
  · rw [h 1 (by omega)]; exact h4
  · intro k
    have := h5 k
    match k, this with
    | 0, g => unfold icm at g ⊢; rw [h 95 (by omega)]; exact g
    | 1, g => unfold icm at g ⊢; rw [h 96 (by omega), h 97 (by omega), h 98 (by omega)]; exact g
    | 2, g => unfold icm at g ⊢; rw [h 99 (by omega)]; exact g
    | 3, g => unfold icm at g ⊢; rw [h 100 (by omega)]; exact g
    | _ + 4, _ => trivial
  · intro k
    have := h6 k
    match k, this with
    | 0, g => unfold icf at g ⊢; rw [h 101 (by omega), h 102 (by omega), h 103 (by omega), h 104 (by omega)]; exact g
    | 1, g => unfold icf at g ⊢; rw [h 101 (by omega)]; exact g
    | 2, g => unfold icf at g ⊢; rw [h 101 (by omega), h 105 (by omega), h 106 (by omega), h 107 (by omega)]; exact g
    | _ + 3, _ => trivial
theorem dP_b {d : Int} (hd : inD d) : dP d = 2 ∨ dP d = 32 ∨ dP d = 62 := by
  rcases hd with rfl | rfl | rfl
  · exact Or.inl rfl
  · exact Or.inr (Or.inl rfl)
  · exact Or.inr (Or.inr rfl)
theorem icr_d {σ : Hp} {a : Ab} (H : ICR σ a) {d : Int} (hd : inD d) : ICD σ a (dP d) d := by
  rcases hd with rfl | rfl | rfl
  · exact H.1
  · exact H.2.1
  · exact H.2.2.1
theorem r_isSeen {σ : Hp} {a : Ab} (W : WFA a) {p : Nat} {d : Int} (hd : inD d) (H : ICD σ a p d) {x : Int} (hx : thr a d x) : f_D_isSeen σ p x = some (bI (seeP a d x)) := by
  have h0 : σ p 0 = a.many d := H 0
  have h10 : ∀ m : Int, thr a d m → σ (p + 15) m = bI (seeP a d m) := H 10
  have hm := many_b W hd
  rw [e_D_isSeen σ p x (by omega), h10 x hx, h0]
  congr 1
  refine bI_iff ⟨fun g => ?_, fun g => ⟨hx.1, hx.2, ?_⟩⟩
  · by_cases e : seeP a d x
    · exact e
    · exact absurd (bI_f e) g.2.2
  · rw [bI_t g]; omega
theorem r_has {σ : Hp} {a : Ab} (W : WFA a) {p : Nat} {d : Int} (hd : inD d) (H : icd σ a p d 0) (x : Int) : f_D_has σ p x = some (bI (thr a d x)) := by
  have h0 : σ p 0 = a.many d := H
  have hm := many_b W hd
  rw [e_D_has, h0]
  congr 1
  exact bI_iff ⟨fun g => ⟨g.1, g.2.1⟩, fun g => ⟨g.1, g.2, by have := g.2; omega⟩⟩
theorem r_depthOf {σ : Hp} {a : Ab} (W : WFA a) {p : Nat} {d : Int} (hd : inD d) (H : ICD σ a p d) {x : Int} (hx : thr a d x) (hp : isP a d x) : f_D_depthOf σ p x = some (dep a d x) := by
  have h0 : σ p 0 = a.many d := H 0
  have h3 : ∀ m : Int, thr a d m → σ (p + 5) m = a.kind (12 * d + m) := H 3
  have h9 : ∀ m : Int, thr a d m → isP a d m → σ (p + 14) m = dep a d m := H 9
  have hm := many_b W hd
  have x0 := hx.1
  have x1 := hx.2
  rw [e_D_depthOf, if_pos ⟨x0, by omega, by omega, by rw [h3 x hx]; exact hp⟩, h9 x hx hp]
theorem r_parentOf {σ : Hp} {a : Ab} (W : WFA a) {p : Nat} {d : Int} (hd : inD d) (H : ICD σ a p d) {x : Int} (hx : thr a d x) (hp : isP a d x) : f_D_parentOf σ p x = some (if x = 0 then -1 else now a d x) := by
  have h0 : σ p 0 = a.many d := H 0
  have h3 : ∀ m : Int, thr a d m → σ (p + 5) m = a.kind (12 * d + m) := H 3
  have h8 : ∀ m : Int, thr a d m → isP a d m → σ (p + 13) m = if m = 0 then -1 else now a d m := H 8
  have hm := many_b W hd
  have x0 := hx.1
  have x1 := hx.2
  rw [e_D_parentOf, if_pos ⟨x0, by omega, by omega, by rw [h3 x hx]; exact hp⟩, h8 x hx hp]
theorem r_orderOf {σ : Hp} {a : Ab} (W : WFA a) {p : Nat} {d : Int} (hd : inD d) (H : ICD σ a p d) {x : Int} (hx : thr a d x) : f_D_orderOf σ p x = some (ord a d x) := by
  have h0 : σ p 0 = a.many d := H 0
  have h3 : ∀ m : Int, thr a d m → σ (p + 5) m = a.kind (12 * d + m) := H 3
  have h6 : ∀ m : Int, thr a d m → a.kind (12 * d + m) = 2 → σ (p + 9) m = a.order (12 * d + m) := H 6
  have hm := many_b W hd
  have x0 := hx.1
  have x1 := hx.2
  rw [e_D_orderOf]
  unfold ord
  by_cases h : a.kind (12 * d + x) = 2
  · rw [if_pos ⟨x0, by omega, by omega, by rw [h3 x hx]; exact h⟩, if_pos h, h6 x hx h]
  · rw [if_neg (fun g => h (by rw [← h3 x hx]; exact g.2.2.2)), if_neg h]
theorem clq_m {a : Ab} (W : WFA a) {t x y : Int} (h : cin a t x y) : mOf (clq t x y) 0 = t ∧ mOf (clq t x y) 1 = x ∧ mOf (clq t x y) 2 = y := mOf_c (thr12 W iD0 h.1) (thr12 W iD1 h.2.1) (thr12 W iD2 h.2.2)
theorem clq_b {a : Ab} (W : WFA a) {t x y : Int} (h : cin a t x y) : 0 ≤ clq t x y ∧ clq t x y < 1728 := by
  have h0 := thr12 W iD0 h.1
  have h1 := thr12 W iD1 h.2.1
  have h2 := thr12 W iD2 h.2.2
  unfold clq; omega
theorem r_mOf (σ : Hp) {a : Ab} (W : WFA a) {t x y : Int} (h : cin a t x y) : f_C_memberOf σ (clq t x y) 0 = some t ∧ f_C_memberOf σ (clq t x y) 1 = some x ∧ f_C_memberOf σ (clq t x y) 2 = some y := by
  have hb := clq_b W h
  have hm := clq_m W h
  rw [e_C_memberOf σ _ _ hb.1, e_C_memberOf σ _ _ hb.1, e_C_memberOf σ _ _ hb.1, hm.1, hm.2.1, hm.2.2]
  exact ⟨rfl, rfl, rfl⟩
theorem r_mOfd (σ : Hp) {a : Ab} (W : WFA a) {t x y d : Int} (h : cin a t x y) (hd : inD d) : f_C_memberOf σ (clq t x y) d = some (crd d t x y) := by
  have hm := r_mOf σ W h
  rcases hd with rfl | rfl | rfl
  · exact hm.1
  · exact hm.2.1
  · exact hm.2.2
theorem r_dim (σ : Hp) {d : Int} : f_S_dimension σ d = some (dP d) := e_S_dimension σ d
theorem r_S_isPlain {σ : Hp} {a : Ab} (W : WFA a) (H : ICR σ a) {t x y : Int} (h : cin a t x y) : f_S_isPlain σ (clq t x y) = some (bI (isP a 0 t ∧ isP a 1 x ∧ isP a 2 y)) := by
  have hm := r_mOf σ W h
  unfold f_S_isPlain; apply ok_eq
  refine ok_eqb hm.1 (ok_eqb (r_isPlain W iD0 (H.1 0) (H.1 3) t) ?_)
  by_cases h1 : isP a 0 t
  · rw [bI_t ⟨h.1, h1⟩, if_neg (by omega)]
    refine ok_bind (ok_eqb hm.2.1 (ok_eqb (r_isPlain W iD1 (H.2.1 0) (H.2.1 3) x) ?_))
    by_cases h2 : isP a 1 x
    · rw [bI_t ⟨h.2.1, h2⟩, if_neg (by omega)]
      refine ok_eqb hm.2.2 (ok_eqb (r_isPlain W iD2 (H.2.2.1 0) (H.2.2.1 3) y) ?_)
      by_cases h3 : isP a 2 y
      · rw [bI_t ⟨h.2.2, h3⟩, if_neg (by omega)]
        exact ok_some (ok_grd (by omega) (ok_some (bI_t ⟨h1, h2, h3⟩).symm))
      · rw [bI_f (fun g => h3 g.2), if_pos rfl]
        exact ok_some (ok_grd (by omega) (ok_some (bI_f (fun g => h3 g.2.2)).symm))
    · rw [bI_f (fun g => h2 g.2), if_pos rfl]
      exact ok_some (ok_grd (by omega) (ok_some (bI_f (fun g => h2 g.2.1)).symm))
  · rw [bI_f (fun g => h1 g.2), if_pos rfl]
    exact ok_bind (ok_some (ok_grd (by omega) (ok_some (bI_f (fun g => h1 g.1)).symm)))
theorem r_S_isSeen {σ : Hp} {a : Ab} (W : WFA a) (H : ICR σ a) {t x y : Int} (h : cin a t x y) : f_S_isSeen σ (clq t x y) = some (bI (seeP a 0 t ∧ seeP a 1 x ∧ seeP a 2 y)) := by
  have hm := r_mOf σ W h
  unfold f_S_isSeen; apply ok_eq
  refine ok_eqb hm.1 (ok_eqb (r_isSeen W iD0 H.1 h.1) ?_)
  by_cases h1 : seeP a 0 t
  · rw [bI_t h1, if_neg (by omega)]
    refine ok_bind (ok_eqb hm.2.1 (ok_eqb (r_isSeen W iD1 H.2.1 h.2.1) ?_))
    by_cases h2 : seeP a 1 x
    · rw [bI_t h2, if_neg (by omega)]
      refine ok_eqb hm.2.2 (ok_eqb (r_isSeen W iD2 H.2.2.1 h.2.2) ?_)
      by_cases h3 : seeP a 2 y
      · rw [bI_t h3, if_neg (by omega)]
        exact ok_some (ok_grd (by omega) (ok_some (bI_t ⟨h1, h2, h3⟩).symm))
      · rw [bI_f h3, if_pos rfl]
        exact ok_some (ok_grd (by omega) (ok_some (bI_f (fun g => h3 g.2.2)).symm))
    · rw [bI_f h2, if_pos rfl]
      exact ok_some (ok_grd (by omega) (ok_some (bI_f (fun g => h2 g.2.1)).symm))
  · rw [bI_f h1, if_pos rfl]
    exact ok_bind (ok_some (ok_grd (by omega) (ok_some (bI_f (fun g => h1 g.1)).symm)))
theorem r_S_leading {σ : Hp} {a : Ab} (W : WFA a) (H : ICR σ a) {t x y : Int} (h : cin a t x y) : f_S_leading σ (clq t x y) = some (lead a t x y) := by
  have hm := r_mOf σ W h
  have o0 := ord_b W iD0 h.1
  have o1 := ord_b W iD1 h.2.1
  have o2 := ord_b W iD2 h.2.2
  unfold f_S_leading; apply ok_eq
  refine ok_call (P := fun r => r.1 = lead a t x y) ?_ (fun r hr => ok_some hr)
  show Okk (f_S_leading_7 σ (clq t x y) (999996 + 1 + 1 + 1 + 1) (-1) (-1) 0) _
  rw [f_S_leading_7, if_neg (by omega)]
  refine ok_eqb (r_dim σ) (ok_eqb hm.1 (ok_eqb (r_orderOf W iD0 H.1 h.1) ?_))
  refine ok_call (P := fun r => r = if ord a 0 t ≠ -1 then (0, ord a 0 t) else (-1, -1)) ?_ ?_
  · refine ok_ite (fun g => ok_some (by rw [if_neg (by intro q; exact q g)])) (fun g => ok_ite (fun g2 => by omega) (fun g2 => ok_some (by rw [if_pos g])))
  intro r1 h1
  refine ok_grd (by (first | omega | (unfold r32; omega) | (unfold r64; omega) | (simp only [r32, r64] at *; omega))) ?_
  rw [show (0 : Int) + 1 = 1 by omega, f_S_leading_7, if_neg (by omega)]
  refine ok_eqb (r_dim σ) (ok_eqb hm.2.1 (ok_eqb (r_orderOf W iD1 H.2.1 h.2.1) ?_))
  refine ok_call (P := fun r => r = if ord a 1 x ≠ -1 ∧ ord a 0 t ≤ ord a 1 x then (1, ord a 1 x) else r1) ?_ ?_
  · refine ok_ite (fun g => ok_some (by rw [if_neg (fun q => q.1 g)])) (fun g => ?_)
    by_cases e : ord a 0 t ≠ -1
    · rw [if_pos e] at h1
      subst h1
      exact ok_ite (fun g2 => ok_some (by rw [if_neg (fun q => by have : ord a 1 x < ord a 0 t := g2; omega)])) (fun g2 => ok_some (by rw [if_pos ⟨g, by have : ¬ ord a 1 x < ord a 0 t := g2; omega⟩]))
    · rw [if_neg e] at h1
      subst h1
      exact ok_ite (fun g2 => by have : ord a 1 x < -1 := g2; omega) (fun g2 => ok_some (by rw [if_pos ⟨g, by omega⟩]))
  intro r2 h2
  refine ok_grd (by (first | omega | (unfold r32; omega) | (unfold r64; omega) | (simp only [r32, r64] at *; omega))) ?_
  rw [show (1 : Int) + 1 = 2 by omega, f_S_leading_7, if_neg (by omega)]
  refine ok_eqb (r_dim σ) (ok_eqb hm.2.2 (ok_eqb (r_orderOf W iD2 H.2.2.1 h.2.2) ?_))
  refine ok_call (P := fun r => r.1 = lead a t x y) ?_ ?_
  · unfold lead
    by_cases e1 : ord a 1 x ≠ -1 ∧ ord a 0 t ≤ ord a 1 x
    · rw [if_pos e1] at h2
      subst h2
      rw [if_pos e1]
      refine ok_ite (fun g => ok_some (by rw [if_neg (fun q => q.1 g)])) (fun g => ok_ite (fun g2 => ok_some ?_) (fun g2 => ok_some ?_))
      · have : ord a 2 y < ord a 1 x := g2
        rw [if_neg (fun q => by omega)]
      · have : ¬ ord a 2 y < ord a 1 x := g2
        rw [if_pos ⟨g, by omega, by omega⟩]
    · rw [if_neg e1] at h2
      subst h2
      rw [if_neg e1]
      have e3 : ord a 1 x = -1 ∨ ord a 1 x < ord a 0 t := by
        by_cases q : ord a 1 x = -1
        · exact Or.inl q
        · have : ¬ ord a 0 t ≤ ord a 1 x := fun p => e1 ⟨q, p⟩
          exact Or.inr (by omega)
      by_cases e : ord a 0 t ≠ -1
      · rw [if_pos e] at h1
        subst h1
        rw [if_pos e]
        refine ok_ite (fun g => ok_some (by rw [if_neg (fun q => q.1 g)])) (fun g => ok_ite (fun g2 => ok_some ?_) (fun g2 => ok_some ?_))
        · have : ord a 2 y < ord a 0 t := g2
          rw [if_neg (fun q => by omega)]
        · have : ¬ ord a 2 y < ord a 0 t := g2
          rw [if_pos ⟨g, by omega, by omega⟩]
      · rw [if_neg e] at h1
        subst h1
        rw [if_neg e]
        refine ok_ite (fun g => ok_some (by rw [if_neg (fun q => q.1 g)])) (fun g => ok_ite (fun g2 => ?_) (fun g2 => ok_some ?_))
        · have : ord a 2 y < -1 := g2
          omega
        · rw [if_pos ⟨g, by omega, by omega⟩]
  intro r3 h3
  refine ok_grd (by (first | omega | (unfold r32; omega) | (unfold r64; omega) | (simp only [r32, r64] at *; omega))) ?_
  rw [show (2 : Int) + 1 = 3 by omega, f_S_leading_7, if_pos (by omega)]
  exact ok_some h3
theorem r_S_isCalculated {σ : Hp} {a : Ab} (W : WFA a) (H : ICR σ a) {t x y : Int} (h : cin a t x y) : f_S_isCalculated σ (clq t x y) = some (bI (0 ≤ lead a t x y)) := by
  unfold f_S_isCalculated; apply ok_eq
  refine ok_eqb (r_S_leading W H h) ?_
  rcases lead_d W h with l | l
  · rw [if_pos l.1]
    exact ok_bind (ok_some (ok_grd (by omega) (ok_some (bI_f (by omega)).symm)))
  · rw [if_neg (by omega)]
    exact ok_bind (ok_some (ok_grd (by omega) (ok_some (bI_t l.2.1).symm)))
/-- a weight in the table, 0: apart -/
def w0 (w : Int) : Int := if w = 2 then 0 else w
theorem r_weight {σ : Hp} {a : Ab} (W : WFA a) (H : ICR σ a) {d m o pt : Int} (hd : inD d) (hm : thr a d m) (hp : isP a d m) (ho : thr a d o) (hk : a.kind (12 * d + o) ≠ 2) (hpt : thr a 0 pt) (hpp : isP a 0 pt) : f_D_weight σ (dP d) (if a.asNow = 0 then pt else 12) m o = some (w0 (wgt a d m o (until_ a pt))) := by
  have D := icr_d H hd
  have h0 : σ (dP d) 0 = a.many d := D 0
  have h11 : ∀ m o : Int, thr a d m → thr a d o → isP a d m → a.kind (12 * d + o) ≠ 2 → σ (dP d + 29) (12 * m + o) = wgt a d m o 99 := D 11
  have h12 : ∀ t : Int, thr a 0 t → isP a 0 t → ∀ m o : Int, thr a d m → thr a d o → isP a d m → a.kind (12 * d + o) ≠ 2 → σ (dP d + 17 + t.toNat) (12 * m + o) = wgt a d m o (a.place t) := D 12
  have hmb := many_b W hd
  have p12 := thr12 W iD0 hpt
  have m0 := hm.1
  have m1 := hm.2
  have o0 := ho.1
  have o1 := ho.2
  have E : σ (dP d + 17 + (if a.asNow = 0 then pt else 12 : Int).toNat) (12 * m + o) = wgt a d m o (until_ a pt) := by
    unfold until_
    by_cases h : a.asNow = 0
    · rw [if_pos h, if_pos h]; exact h12 pt hpt hpp m o hm ho hp hk
    · rw [if_neg h, if_neg h]; exact h11 m o hm ho hp hk
  have R : 0 ≤ (if a.asNow = 0 then pt else 12 : Int) ∧ (if a.asNow = 0 then pt else 12 : Int) ≤ 12 := by
    by_cases h : a.asNow = 0
    · rw [if_pos h]; omega
    · rw [if_neg h]; omega
  rw [e_D_weight σ _ _ _ _ (by omega), E, h0]
  unfold w0
  by_cases h : wgt a d m o (until_ a pt) = 2
  · rw [if_neg (fun g => g.2.2.2.2.2.2 h), if_pos h]
  · rw [if_pos ⟨R.1, R.2, m0, m1, o0, o1, h⟩, if_neg h]
theorem r_S_weight {σ : Hp} {a : Ab} (W : WFA a) (H : ICR σ a) {pt px py t x y : Int} (hp : cin a pt px py) (hP : isP a 0 pt ∧ isP a 1 px ∧ isP a 2 py) (h : cin a t x y) (hl : lead a t x y = -1) : f_S_weight σ (clq pt px py) (clq t x y) = some (cnt a pt px py t x y) := by
  have hmp := r_mOf σ W hp
  have hm := r_mOf σ W h
  have hk := (lead_d W h).resolve_right (fun g => by omega)
  have e4 : σ 1 4 = a.asNow := H.2.2.2.2.1.1
  have e5 : σ 1 5 = a.leave := H.2.2.2.2.1.2
  have w0e := r_weight W H iD0 hp.1 hP.1 h.1 hk.2.1 hp.1 hP.1
  have w1e := r_weight W H iD1 hp.2.1 hP.2.1 h.2.1 hk.2.2.1 hp.1 hP.1
  have w2e := r_weight W H iD2 hp.2.2 hP.2.2 h.2.2 hk.2.2.2 hp.1 hP.1
  have r0 := wgt_r W (u := until_ a pt) iD0 hp.1 hP.1 h.1.1
  have r1 := wgt_r W (u := until_ a pt) iD1 hp.2.1 hP.2.1 h.2.1.1
  have r2 := wgt_r W (u := until_ a pt) iD2 hp.2.2 hP.2.2 h.2.2.1
  have T : Okk ((f_C_memberOf σ (clq pt px py) 0).bind fun v1 => (if (σ 1 4) = 0 then some v1 else some 12 : Option (Int)).bind fun j3 => (f_C_memberOf σ (clq t x y) 0).bind fun v5 => (f_D_weight σ 2 j3 v1 v5).bind fun v7 => (if v7 = 0 then some v7 else (f_C_memberOf σ (clq pt px py) 1).bind fun v11 => (f_C_memberOf σ (clq t x y) 1).bind fun v13 => (f_D_weight σ 32 j3 v11 v13).bind fun v15 => grd (r32 (v7 * v15)) <| some (v7 * v15) : Option (Int)).bind fun j9 => (if j9 = 0 then some j9 else (f_C_memberOf σ (clq pt px py) 2).bind fun v20 => (f_C_memberOf σ (clq t x y) 2).bind fun v22 => (f_D_weight σ 62 j3 v20 v22).bind fun v24 => grd (r32 (j9 * v24)) <| some (j9 * v24) : Option (Int)).bind fun j18 => some (j18)) fun r => r = w0 (wgt a 0 pt t (until_ a pt)) * w0 (wgt a 1 px x (until_ a pt)) * w0 (wgt a 2 py y (until_ a pt)) := by
    have b0 : -1 ≤ w0 (wgt a 0 pt t (until_ a pt)) ∧ w0 (wgt a 0 pt t (until_ a pt)) ≤ 1 := by
      unfold w0
      by_cases e : wgt a 0 pt t (until_ a pt) = 2
      · rw [if_pos e]; omega
      · rw [if_neg e]; omega
    have b1 : -1 ≤ w0 (wgt a 1 px x (until_ a pt)) ∧ w0 (wgt a 1 px x (until_ a pt)) ≤ 1 := by
      unfold w0
      by_cases e : wgt a 1 px x (until_ a pt) = 2
      · rw [if_pos e]; omega
      · rw [if_neg e]; omega
    have b2 : -1 ≤ w0 (wgt a 2 py y (until_ a pt)) ∧ w0 (wgt a 2 py y (until_ a pt)) ≤ 1 := by
      unfold w0
      by_cases e : wgt a 2 py y (until_ a pt) = 2
      · rw [if_pos e]; omega
      · rw [if_neg e]; omega
    refine ok_eqb hmp.1 (ok_call (P := fun r => r = if a.asNow = 0 then pt else 12) ?_ ?_)
    · rw [e4]; exact ok_ite (fun g => ok_some (by rw [if_pos g])) (fun g => ok_some (by rw [if_neg g]))
    rintro r rfl
    refine ok_eqb hm.1 (ok_eqb w0e ?_)
    refine ok_call (P := fun r => r = w0 (wgt a 0 pt t (until_ a pt)) * w0 (wgt a 1 px x (until_ a pt))) ?_ ?_
    · refine ok_ite (fun g => ok_some (by rw [g, Int.zero_mul])) (fun g => ok_eqb hmp.2.1 (ok_eqb hm.2.1 (ok_eqb w1e (ok_grd ?_ (ok_some rfl)))))
      have := mul_1 b0 b1; (first | omega | (unfold r32; omega) | (unfold r64; omega) | (simp only [r32, r64] at *; omega))
    · rintro r rfl
      have b01 := mul_1 b0 b1
      refine ok_bind (ok_ite (fun g => ok_some (ok_some (by rw [g, Int.zero_mul]))) (fun g => ok_eqb hmp.2.2 (ok_eqb hm.2.2 (ok_eqb w2e (ok_grd ?_ (ok_some (ok_some rfl)))))))
      have := mul_1 b01 b2; (first | omega | (unfold r32; omega) | (unfold r64; omega) | (simp only [r32, r64] at *; omega))
  have Z : w0 (wgt a 0 pt t (until_ a pt)) * w0 (wgt a 1 px x (until_ a pt)) * w0 (wgt a 2 py y (until_ a pt)) = if wgt a 0 pt t (until_ a pt) = 2 ∨ wgt a 1 px x (until_ a pt) = 2 ∨ wgt a 2 py y (until_ a pt) = 2 then 0 else wgt a 0 pt t (until_ a pt) * wgt a 1 px x (until_ a pt) * wgt a 2 py y (until_ a pt) := by
    unfold w0
    by_cases g0 : wgt a 0 pt t (until_ a pt) = 2
    · rw [if_pos g0, if_pos (Or.inl g0), Int.zero_mul, Int.zero_mul]
    · by_cases g1 : wgt a 1 px x (until_ a pt) = 2
      · rw [if_neg g0, if_pos g1, if_pos (Or.inr (Or.inl g1)), Int.mul_zero, Int.zero_mul]
      · by_cases g2 : wgt a 2 py y (until_ a pt) = 2
        · rw [if_neg g0, if_neg g1, if_pos g2, if_pos (Or.inr (Or.inr g2)), Int.mul_zero]
        · rw [if_neg g0, if_neg g1, if_neg g2, if_neg (fun q => by rcases q with q | q | q; exact g0 q; exact g1 q; exact g2 q)]
  unfold f_S_weight cnt; apply ok_eq
  rw [e5]
  by_cases hv : a.leave = 0
  · rw [if_pos hv]
    refine ok_mono T (fun r hr => ?_)
    rw [hr, Z]
    by_cases g : wgt a 0 pt t (until_ a pt) = 2 ∨ wgt a 1 px x (until_ a pt) = 2 ∨ wgt a 2 py y (until_ a pt) = 2
    · rw [if_pos g, if_pos (by rcases g with g | g | g; exact Or.inl g; exact Or.inr (Or.inl g); exact Or.inr (Or.inr (Or.inl g)))]
    · rw [if_neg g, if_neg (fun q => by rcases q with q | q | q | q; exact g (Or.inl q); exact g (Or.inr (Or.inl q)); exact g (Or.inr (Or.inr q)); exact q.1 hv)]
  · rw [if_neg hv]
    refine ok_eqb (r_S_isSeen W H hp) ?_
    by_cases hs : seeP a 0 pt ∧ seeP a 1 px ∧ seeP a 2 py
    · rw [bI_t hs, if_pos (by omega)]
      refine ok_mono T (fun r hr => ?_)
      rw [hr, Z]
      by_cases g : wgt a 0 pt t (until_ a pt) = 2 ∨ wgt a 1 px x (until_ a pt) = 2 ∨ wgt a 2 py y (until_ a pt) = 2
      · rw [if_pos g, if_pos (by rcases g with g | g | g; exact Or.inl g; exact Or.inr (Or.inl g); exact Or.inr (Or.inr (Or.inl g)))]
      · rw [if_neg g, if_neg (fun q => by rcases q with q | q | q | q; exact g (Or.inl q); exact g (Or.inr (Or.inl q)); exact g (Or.inr (Or.inr q)); exact q.2 hs)]
    · rw [bI_f hs, if_neg (by omega), if_pos (Or.inr (Or.inr (Or.inr ⟨hv, hs⟩)))]
      exact ok_some rfl
theorem ndsF_st {a : Ab} (W : WFA a) (o : Int) : ∀ (F G : Nat) (m : Int), 0 ≤ m → m < a.measures → m < F → m < G → (ndsF a o F m ↔ ndsF a o G m) := by
  intro F
  induction F with
  | zero => intro G m m0 m1 hF; omega
  | succ F ih =>
    intro G m m0 m1 hF hG
    obtain ⟨G, rfl⟩ : ∃ g, G = g + 1 := ⟨G - 1, by omega⟩
    have hm := mea W m0 m1
    unfold ndsF
    by_cases h : a.mk m = 3
    · have := hm.2.2.2 h
      rw [ih G (a.ma m) (by omega) (by omega) (by omega) (by omega), ih G (a.mb m) (by omega) (by omega) (by omega) (by omega)]
    · simp only [h, false_and]
theorem nds_s {a : Ab} (W : WFA a) {m o : Int} (m0 : 0 ≤ m) (m1 : m < a.measures) : nds a m o ↔ (m = o ∨ (a.mk m = 3 ∧ (nds a (a.ma m) o ∨ nds a (a.mb m) o))) := by
  have hm := mea W m0 m1
  unfold nds
  show (m = o ∨ (a.mk m = 3 ∧ (ndsF a o m.toNat (a.ma m) ∨ ndsF a o m.toNat (a.mb m)))) ↔ _
  by_cases h : a.mk m = 3
  · have := hm.2.2.2 h
    rw [ndsF_st W o m.toNat ((a.ma m).toNat + 1) (a.ma m) (by omega) (by omega) (by omega) (by omega), ndsF_st W o m.toNat ((a.mb m).toNat + 1) (a.mb m) (by omega) (by omega) (by omega) (by omega)]
  · simp only [h, false_and]
theorem nds_t {a : Ab} (W : WFA a) {i : Int} (i0 : 0 ≤ i) (i1 : i < a.measures) (h3 : a.mk i = 3) : ∀ (F : Nat) (m : Int), 0 ≤ m → m < a.measures → m < F → nds a m i → nds a m (a.ma i) ∧ nds a m (a.mb i) := by
  intro F
  induction F with
  | zero => intro m m0 m1 hF; omega
  | succ F ih =>
    intro m m0 m1 hF h
    have hm := mea W m0 m1
    have hi := (mea W i0 i1).2.2.2 h3
    rcases (nds_s W m0 m1).mp h with e | ⟨e, e2⟩
    · subst e
      refine ⟨(nds_s W m0 m1).mpr (Or.inr ⟨h3, Or.inl ((nds_s W (by omega) (by omega)).mpr (Or.inl rfl))⟩), (nds_s W m0 m1).mpr (Or.inr ⟨h3, Or.inr ((nds_s W (by omega) (by omega)).mpr (Or.inl rfl))⟩)⟩
    · have hab := hm.2.2.2 e
      rcases e2 with e2 | e2
      · have := ih (a.ma m) (by omega) (by omega) (by omega) e2
        exact ⟨(nds_s W m0 m1).mpr (Or.inr ⟨e, Or.inl this.1⟩), (nds_s W m0 m1).mpr (Or.inr ⟨e, Or.inl this.2⟩)⟩
      · have := ih (a.mb m) (by omega) (by omega) (by omega) e2
        exact ⟨(nds_s W m0 m1).mpr (Or.inr ⟨e, Or.inr this.1⟩), (nds_s W m0 m1).mpr (Or.inr ⟨e, Or.inr this.2⟩)⟩
theorem r_MS_has {σ : Hp} {a : Ab} (W : WFA a) (H : ICM σ a) (x : Int) : f_MS_has σ x = some (bI (0 ≤ x ∧ x < a.measures)) := by
  have h0 : σ 95 0 = a.measures := H 0
  have h10 : 0 ≤ a.measures ∧ a.measures ≤ 4 ∧ _ := W 10
  rw [e_MS_has, h0]
  congr 1
  exact bI_iff (by omega)
theorem r_MS_kindOf {σ : Hp} {a : Ab} (W : WFA a) (H : ICM σ a) {m : Int} (m0 : 0 ≤ m) (m1 : m < a.measures) : f_MS_kindOf σ m = some (a.mk m) := by
  have h0 : σ 95 0 = a.measures := H 0
  have h1 : ∀ m : Int, 0 ≤ m → m < a.measures → σ 96 m = a.mk m ∧ (a.mk m = 3 → σ 97 m = a.ma m ∧ σ 98 m = a.mb m) := H 1
  have := (mea W m0 m1).1
  rw [e_MS_kindOf, h0, if_pos ⟨m0, m1, this⟩, (h1 m m0 m1).1]
theorem r_MS_needs {σ : Hp} {a : Ab} (W : WFA a) (H : ICM σ a) {m o : Int} (m0 : 0 ≤ m) (m1 : m < a.measures) (o0 : 0 ≤ o) (o1 : o < a.measures) : f_MS_needs σ m o = some (bI (nds a m o)) := by
  have h2 : ∀ m : Int, 0 ≤ m → m < a.measures → 0 ≤ σ 99 m ∧ σ 99 m < 16 ∧ ∀ o : Int, 0 ≤ o → o < 4 → (bitP (σ 99 m) o ↔ nds a m o) := H 2
  have hm := (mea W m0 m1).1
  have ho := (mea W o0 o1).1
  have h := h2 m m0 m1
  have e := sb_1 h.1 (by omega : σ 99 m < 4096) o0 (by omega : o < 13)
  unfold f_MS_needs; apply ok_eq
  refine ok_eqb (r_MS_has W H m) ?_
  rw [bI_t ⟨m0, m1⟩, if_neg (by omega)]
  refine ok_bind (ok_eqb (r_MS_has W H o) ?_)
  rw [bI_t ⟨o0, o1⟩, if_neg (by omega)]
  refine ok_grd (by omega) (ok_ite (fun g => ok_some (ok_grd (by omega) (ok_some (bI_f (fun q => g (e.mpr ((h.2.2 o o0 ho).mpr q)))).symm))) (fun g => ok_some (ok_grd (by omega) (ok_some (bI_t ((h.2.2 o o0 ho).mp (e.mp (Classical.not_not.mp g)))).symm))))
theorem r_MS_leastDepth {σ : Hp} {a : Ab} (W : WFA a) (H : ICM σ a) {m d : Int} (m0 : 0 ≤ m) (m1 : m < a.measures) (hd : inD d) : f_MS_leastDepth σ m d = some (a.md (3 * m + d)) := by
  have h0 : σ 95 0 = a.measures := H 0
  have h3 : ∀ i : Int, 0 ≤ i → i < 12 → σ 100 i = a.md i := H 3
  have hm := (mea W m0 m1).1
  have hd' := inD_b hd
  rw [e_MS_leastDepth, h0, if_pos ⟨m0, m1, hm, by omega, by omega⟩, h3 _ (by omega) (by omega)]
