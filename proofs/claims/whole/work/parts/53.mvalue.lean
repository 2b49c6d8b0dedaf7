/-! ===== the reference's values ===== -/
theorem e_M_back_20 {σ : Hp} {a : Ab} (W : WFA a) (V : Vw σ a) {t b : Int} (ht : thr a 0 t) (hp : isP a 0 t) (hb : thr a 0 b) : ∀ (F k : Nat), (k : Int) ≤ a.many 0 → a.many 0 - k < F → Okk (f_M_back_20 σ t b F (prvF a t b k) k) fun r => r.1 = prv a t b := by
  have hm := many_b W iD0
  have b12 := thr12 W iD0 hb
  intro F
  induction F with
  | zero => intro k hk hF; omega
  | succ F ih =>
    intro k hk hF
    have hpb := prvF_b a t b k
    rw [f_M_back_20, w_many V]
    refine ok_grd (by omega) (ok_ite (fun h => ok_some ?_) (fun h => ?_))
    · unfold prv; rw [show (a.many 0).toNat = k by omega]
    · have hk12 : 0 ≤ (k : Int) ∧ (k : Int) < 12 := by omega
      have tk : thr a 0 k := ⟨by omega, by omega⟩
      have hst : ∀ p s : Int, p = prvF a t b (k + 1) → s = ((k + 1 : Nat) : Int) → Okk (f_M_back_20 σ t b F p s) fun r => r.1 = prv a t b := by
        rintro p s rfl rfl; exact ih (k + 1) (by omega) (by omega)
      have e1 : prvF a t b (k + 1) = if isP a 0 k ∧ dep a 0 k = dep a 0 t ∧ a.place k < a.place b ∧ (prvF a t b k < 0 ∨ a.place (prvF a t b k) < a.place k) then (k : Int) else prvF a t b k := rfl
      refine ok_eqb (e_M_isPlain V iD0 hk12) (ok_call (P := fun r => (r = 1 ∧ isP a 0 k ∧ dep a 0 k = dep a 0 t ∧ a.place k < a.place b ∧ (prvF a t b k < 0 ∨ a.place (prvF a t b k) < a.place k)) ∨ (r = 0 ∧ ¬ (isP a 0 k ∧ dep a 0 k = dep a 0 t ∧ a.place k < a.place b ∧ (prvF a t b k < 0 ∨ a.place (prvF a t b k) < a.place k)))) ?_ ?_)
      · by_cases pk : isP a 0 k
        · rw [bI_t pk, if_neg (by omega)]
          refine ok_eqb (e_M_depth W V iD0 tk pk) (ok_eqb (e_M_depth W V iD0 ht hp) (ok_ite (fun g => ok_some (Or.inr ⟨rfl, fun q => g q.2.1⟩)) (fun g => ok_grd hk12 (ok_grd b12 ?_))))
          simp only [w_place V]
          refine ok_ite (fun g2 => ok_some (Or.inr ⟨rfl, fun q => by omega⟩)) (fun g2 => ok_ite (fun g3 => ok_some (Or.inl ⟨rfl, pk, by omega, by omega, Or.inl g3⟩)) (fun g3 => ok_grd hk12 (ok_grd (by omega) ?_)))
          refine ok_ite (fun g4 => ok_some (Or.inr ⟨rfl, fun q => by omega⟩)) (fun g4 => ok_some (Or.inl ⟨rfl, pk, by omega, by omega, Or.inr (by omega)⟩))
        · rw [bI_f pk, if_pos rfl]; exact ok_some (Or.inr ⟨rfl, fun q => pk q.1⟩)
      · rintro r (⟨rfl, h1⟩ | ⟨rfl, h1⟩)
        · rw [if_neg (by omega)]
          exact ok_bind (ok_some (ok_grd (by (first | omega | (unfold r32; omega) | (unfold r64; omega) | (simp only [r32, r64] at *; omega))) (hst _ _ (by rw [e1, if_pos h1]) (by omega))))
        · rw [if_pos rfl]
          exact ok_bind (ok_some (ok_grd (by (first | omega | (unfold r32; omega) | (unfold r64; omega) | (simp only [r32, r64] at *; omega))) (hst _ _ (by rw [e1, if_neg h1]) (by omega))))
theorem e_M_back_5 {σ : Hp} {a : Ab} (W : WFA a) (V : Vw σ a) {t : Int} (ht : thr a 0 t) (hp : isP a 0 t) : ∀ (F s : Nat) (b : Int), s < F → s < 100 → (b < 0 ∨ (thr a 0 b ∧ isP a 0 b)) → Okk (f_M_back_5 σ t F s b) fun r => r.2 = bckF a t s b := by
  have hm := many_b W iD0
  intro F
  induction F with
  | zero => intro s b hF; omega
  | succ F ih =>
    intro s b hF hs hb
    rw [f_M_back_5]
    refine ok_ite (fun h => ok_some (by rw [show s = 0 by omega]; rfl)) (fun h => ?_)
    obtain ⟨s, rfl⟩ : ∃ k, s = k + 1 := ⟨s - 1, by omega⟩
    refine ok_ite (fun h2 => ok_some (by show b = bckF a t (s + 1) b; unfold bckF; rw [if_pos h2])) (fun h2 => ?_)
    have hb' := hb.resolve_left h2
    have h20 := e_M_back_20 W V ht hp hb'.1 zFuel 0 (by omega) (by unfold zFuel; omega)
    refine ok_call h20 (fun r hr => ok_grd (by (first | omega | (unfold r32; omega) | (unfold r64; omega) | (simp only [r32, r64] at *; omega))) ?_)
    rw [hr, show ((s + 1 : Nat) : Int) + (-1) = (s : Int) by omega]
    have e : bckF a t (s + 1) b = bckF a t s (prv a t b) := by
      show (if b < 0 then b else bckF a t s (prv a t b)) = _
      rw [if_neg h2]
    rw [e]
    refine ih s _ (by omega) (by omega) ?_
    rcases prv_b W t b with g | g
    · exact Or.inl (by omega)
    · exact Or.inr ⟨g.1, g.2.1⟩
theorem e_M_back {σ : Hp} {a : Ab} (W : WFA a) (V : Vw σ a) {t s : Int} (ht : thr a 0 t) (hp : isP a 0 t) (h0 : 0 ≤ s) (h1 : s < 100) : f_M_back σ t s = some (bck a t s) := by
  have h5 := e_M_back_5 W V ht hp zFuel s.toNat t (by unfold zFuel; omega) (by omega) (Or.inr ⟨ht, hp⟩)
  rw [show ((s.toNat : Nat) : Int) = s by omega] at h5
  unfold f_M_back bck; apply ok_eq
  exact ok_call h5 (fun r hr => ok_some hr)
def MS (σ : Hp) (a : Ab) : Prop := Vw σ a ∧ (∀ c : Int, 0 ≤ c → c < 13824 → σ 161 c ≤ σ 129 38) ∧ icv σ a 0 1
/-- only memo, base and the pile from b up may differ -/
def vch (b : Int) (σ σ' : Hp) : Prop := (∀ q : Nat, q ≠ 129 → q ≠ 160 → q ≠ 161 → q ≠ 166 → σ' q = σ q) ∧ (∀ j : Int, j ≠ 46 → σ' 129 j = σ 129 j) ∧ ∀ j : Int, j < b → σ' 166 j = σ 166 j
theorem vch_r (b : Int) (σ : Hp) : vch b σ σ := ⟨fun _ _ _ _ _ => rfl, fun _ _ => rfl, fun _ _ => rfl⟩
theorem vch_t {b b' : Int} {σ σ' σ'' : Hp} (h1 : vch b σ σ') (h2 : vch b' σ' σ'') (h : b ≤ b') : vch b σ σ'' := ⟨fun q a1 a2 a3 a4 => (h2.1 q a1 a2 a3 a4).trans (h1.1 q a1 a2 a3 a4), fun j hj => (h2.2.1 j hj).trans (h1.2.1 j hj), fun j hj => (h2.2.2 j (by omega)).trans (h1.2.2 j hj)⟩
theorem MS_c {σ σ' : Hp} {a : Ab} (M : MS σ a) (h1 : ∀ q : Nat, q ≠ 129 → q ≠ 166 → σ' q = σ q) (h2 : ∀ j : Int, j ≠ 46 → σ' 129 j = σ 129 j) : MS σ' a := by
  have e38 := h2 38 (by omega)
  have e160 := h1 160 (by omega) (by omega)
  have e161 := h1 161 (by omega) (by omega)
  refine ⟨fun q j hq => ?_, ?_, ?_⟩
  · by_cases e : q = 129
    · subst e
      rw [h2 j (by intro g; subst g; unfold vwP at hq; omega)]; exact M.1 _ _ hq
    · rw [h1 q e (by intro g; subst g; unfold vwP at hq; omega)]; exact M.1 _ _ hq
  · rw [e161, e38]; exact M.2.1
  · have := M.2.2
    unfold icv at this ⊢
    rw [e160, e161, e38]; exact this
theorem MS_b {σ : Hp} {a : Ab} (M : MS σ a) (v : Int) : MS (hset σ 129 46 v) a := MS_c M (fun q h _ => hset_ne h) (fun j hj => hs_nj hj)
theorem MS_p {σ : Hp} {a : Ab} (M : MS σ a) (i v : Int) : MS (hset σ 166 i v) a := MS_c M (fun q _ h => hset_ne h) (fun j hj => hs_ne (by omega))
/-- a value is laid into the memo -/
theorem MS_set {σ : Hp} {a : Ab} (W : WFA a) (M : MS σ a) {t x y m v off : Int} (h : cin a t x y) (m0 : 0 ≤ m) (m1 : m < a.measures) (ho : (off = 0 ∧ v = val a m t x y) ∨ (off = 6912 ∧ lead a t x y = -1 ∧ v = who a m t x y)) : MS (hset (hset σ 161 (off + 576 * t + 48 * x + 4 * y + m) (σ 129 38)) 160 (off + 576 * t + 48 * x + 4 * y + m) v) a := by
  have t12 := thr12 W iD0 h.1
  have x12 := thr12 W iD1 h.2.1
  have y12 := thr12 W iD2 h.2.2
  have m4 := (mea W m0 m1).1
  obtain ⟨V, M1, M2⟩ := M
  have M2' : ∀ t x y m : Int, thr a 0 t → thr a 1 x → thr a 2 y → 0 ≤ m → m < a.measures → (σ 161 (576 * t + 48 * x + 4 * y + m) = σ 129 38 → σ 160 (576 * t + 48 * x + 4 * y + m) = val a m t x y) ∧ (σ 161 (6912 + 576 * t + 48 * x + 4 * y + m) = σ 129 38 → lead a t x y = -1 ∧ σ 160 (6912 + 576 * t + 48 * x + 4 * y + m) = who a m t x y) := M2
  refine ⟨?_, ?_, ?_⟩
  · exact Vw_h (Vw_h V (by unfold vwP; omega)) (by unfold vwP; omega)
  · intro c c0 c1
    rw [hs_ne (by omega : (129 : Nat) ≠ 160), hs_ne (by omega : (129 : Nat) ≠ 161), hs_ne (by omega : (161 : Nat) ≠ 160)]
    by_cases e : c = off + 576 * t + 48 * x + 4 * y + m
    · rw [e, hs_eq]; omega
    · rw [hs_nj e]; exact M1 c c0 c1
  · intro t' x' y' m' ht' hx' hy' m0' m1'
    have t12' := thr12 W iD0 ht'
    have x12' := thr12 W iD1 hx'
    have y12' := thr12 W iD2 hy'
    have m4' := (mea W m0' m1').1
    have H := M2' t' x' y' m' ht' hx' hy' m0' m1'
    rw [hs_ne (by omega : (129 : Nat) ≠ 160), hs_ne (by omega : (129 : Nat) ≠ 161), hs_ne (by omega : (161 : Nat) ≠ 160), hs_ne (by omega : (161 : Nat) ≠ 160)]
    refine ⟨fun g => ?_, fun g => ?_⟩
    · by_cases e : 576 * t' + 48 * x' + 4 * y' + m' = off + 576 * t + 48 * x + 4 * y + m
      · rw [e, hs_eq]
        rcases ho with ho | ho
        · have e1 : t' = t := by omega
          have e2 : x' = x := by omega
          have e3 : y' = y := by omega
          have e4 : m' = m := by omega
          rw [e1, e2, e3, e4]; exact ho.2
        · omega
      · rw [hs_nj e, hset_ne (by omega : (160 : Nat) ≠ 161)]
        rw [hs_nj e] at g
        exact H.1 g
    · by_cases e : 6912 + 576 * t' + 48 * x' + 4 * y' + m' = off + 576 * t + 48 * x + 4 * y + m
      · rw [e, hs_eq]
        rcases ho with ho | ho
        · omega
        · have e1 : t' = t := by omega
          have e2 : x' = x := by omega
          have e3 : y' = y := by omega
          have e4 : m' = m := by omega
          rw [e1, e2, e3, e4]; exact ho.2
      · rw [hs_nj e, hset_ne (by omega : (160 : Nat) ≠ 161)]
        rw [hs_nj e] at g
        exact H.2 g
def stk (f : Int → Int) (b : Int) : List Int → Prop
  | [] => True
  | q :: r => f (b + r.length) = q ∧ stk f b r
theorem stk_c {f g : Int → Int} {b : Int} : ∀ (l : List Int), (∀ j : Int, b ≤ j → j < b + l.length → g j = f j) → stk f b l → stk g b l
  | [], _, _ => trivial
  | q :: r, h, H => by
    simp only [List.length_cons] at h
    refine ⟨?_, stk_c r (fun j j0 j1 => h j j0 (by omega)) H.2⟩
    rw [h _ (by omega) (by omega)]; exact H.1
/-- what the reference's value does, as a hypothesis for those that call it -/
def mVok (a : Ab) (m : Int) (V : Hp → Int → Int → Int → Int → Int → Option (Int × Hp)) (c : Int) : Prop := ∀ (σ : Hp) (t x y : Int), MS σ a → cin a t x y → crk a t x y < c → 0 ≤ σ 129 46 → σ 129 46 + 10 * (crk a t x y + 1) ≤ 3690 → Okk (V σ t x y m 0) fun r => r.1 = val a m t x y ∧ MS r.2 a ∧ vch (σ 129 46) σ r.2 ∧ r.2 129 46 = σ 129 46
theorem lok_0 {v : Int → Int → Int → Int} {a : Ab} {d z s t x y : Int} (hs : s = 0) : lokV v a d z s t x y = v (withD d z t x y).1 (withD d z t x y).2.1 (withD d z t x y).2.2 := if_pos hs
theorem lok_y {v : Int → Int → Int → Int} {a : Ab} {d z s t x y : Int} (hs : s ≠ 0) (h : isP a 0 (withD d z t x y).1 ∧ 0 ≤ bck a (withD d z t x y).1 s) : lokV v a d z s t x y = v (bck a (withD d z t x y).1 s) (withD d z t x y).2.1 (withD d z t x y).2.2 := by
  unfold lokV; rw [if_neg hs]; exact if_pos h
theorem lok_n {v : Int → Int → Int → Int} {a : Ab} {d z s t x y : Int} (hs : s ≠ 0) (h : ¬ (isP a 0 (withD d z t x y).1 ∧ 0 ≤ bck a (withD d z t x y).1 s)) : lokV v a d z s t x y = zNO := by
  unfold lokV; rw [if_neg hs]; exact if_neg h
theorem e_M_look {a : Ab} (W : WFA a) (K : WFW a) {m : Int} (m0 : 0 ≤ m) (m1 : m < a.measures) {V : Hp → Int → Int → Int → Int → Int → Option (Int × Hp)} {d t x y : Int} (hV : mVok a m V (crk a t x y)) (hd : inD d) (h : cin a t x y) (hk : a.kind (12 * d + crd d t x y) = 2) {σ : Hp} (M : MS σ a) (b0 : 0 ≤ σ 129 46) (b1 : σ 129 46 + 10 * crk a t x y ≤ 3690) {z s : Int} (z0 : 0 ≤ z) (z1 : z < crd d t x y) (s0 : 0 ≤ s) (s1 : s ≤ 11) : Okk (f_M_look V σ d z s t x y m 0) fun r => r.1 = lokV (val a m) a d z s t x y ∧ MS r.2 a ∧ vch (σ 129 46) σ r.2 ∧ r.2 129 46 = σ 129 46 := by
  have hw := wd_in hd h hk z0 z1
  unfold f_M_look
  refine ok_call (P := fun r => r = (withD d z t x y).1) ?_ ?_
  · unfold withD
    exact ok_ite (fun g => ok_some (if_neg g).symm) (fun g => ok_some (if_pos (Classical.not_not.mp g)).symm)
  rintro j rfl
  have T : ∀ t' : Int, thr a 0 t' → crk a t' (withD d z t x y).2.1 (withD d z t x y).2.2 < crk a t x y → Okk ((if 0 ≤ t' then (if d ≠ 1 then some x else some z : Option (Int)).bind fun j14 => (if d ≠ 2 then some y else some z : Option (Int)).bind fun j16 => (V σ t' j14 j16 m 0).bind fun v18 => some (v18.1, v18.2) else some ((-9223372036854775808), σ) : Option (Int × Hp)).bind fun j12 => (if (lcm j12.1 (-9223372036854775808)) ≠ 0 then (f_M_bound j12.2 j12.1).bind fun v24 => some v24 else some (-9223372036854775808) : Option (Int)).bind fun j22 => some (j22, j12.2)) fun r => r.1 = val a m t' (withD d z t x y).2.1 (withD d z t x y).2.2 ∧ MS r.2 a ∧ vch (σ 129 46) σ r.2 ∧ r.2 129 46 = σ 129 46 := by
    intro t' ht' hc
    rw [if_pos ht'.1]
    refine ok_bind (ok_call (P := fun r => r = (withD d z t x y).2.1) ?_ ?_)
    · unfold withD
      exact ok_ite (fun g => ok_some (if_neg g).symm) (fun g => ok_some (if_pos (Classical.not_not.mp g)).symm)
    rintro j1 rfl
    refine ok_call (P := fun r => r = (withD d z t x y).2.2) ?_ ?_
    · unfold withD
      exact ok_ite (fun g => ok_some (if_neg g).symm) (fun g => ok_some (if_pos (Classical.not_not.mp g)).symm)
    rintro j2 rfl
    refine ok_call (hV σ t' _ _ M ⟨ht', hw.1.2⟩ hc b0 (by omega)) ?_
    rintro r ⟨r1, r2, r3, r4⟩
    refine ok_some ?_
    have hok := okv_val W K m0 m1 (t := t') (x := (withD d z t x y).2.1) (y := (withD d z t x y).2.2) ⟨ht', hw.1.2⟩
    simp only [ne_eq, lcm_eq, no_e]
    rw [r1]
    refine ok_call (P := fun q => q = val a m t' (withD d z t x y).2.1 (withD d z t x y).2.2) ?_ ?_
    · refine ok_ite (fun g => ok_eqb (e_M_bound _ _) (ok_some ?_)) (fun g => ok_some (Classical.not_not.mp g).symm)
      exact bnd_i (by have := okv_r hok g; unfold zMOST; exact this)
    · rintro q rfl; exact ok_some ⟨rfl, r2, r3, r4⟩
  have N : Okk ((if (0 : Int) ≤ -1 then (if d ≠ 1 then some x else some z : Option (Int)).bind fun j14 => (if d ≠ 2 then some y else some z : Option (Int)).bind fun j16 => (V σ (-1) j14 j16 m 0).bind fun v18 => some (v18.1, v18.2) else some ((-9223372036854775808), σ) : Option (Int × Hp)).bind fun j12 => (if (lcm j12.1 (-9223372036854775808)) ≠ 0 then (f_M_bound j12.2 j12.1).bind fun v24 => some v24 else some (-9223372036854775808) : Option (Int)).bind fun j22 => some (j22, j12.2)) fun r => r.1 = zNO ∧ MS r.2 a ∧ vch (σ 129 46) σ r.2 ∧ r.2 129 46 = σ 129 46 := by
    rw [if_neg (by omega)]
    refine ok_bind (ok_some ?_)
    rw [if_neg (by simp [lcm_eq])]
    exact ok_bind (ok_some (ok_some ⟨rfl, M, vch_r _ _, rfl⟩))
  by_cases hs : s = 0
  · rw [if_pos (by omega), lok_0 hs]
    exact ok_bind (ok_some (T _ hw.1.1 hw.2))
  · rw [if_neg (by omega)]
    refine ok_bind (ok_eqb (e_M_isPlain M.1 iD0 (thr12 W iD0 hw.1.1)) ?_)
    by_cases hp : isP a 0 (withD d z t x y).1
    · rw [bI_t hp, if_neg (by omega)]
      refine ok_bind (ok_eqb (e_M_back W M.1 hw.1.1 hp s0 (by omega)) (ok_some (ok_some ?_)))
      rcases bck_b W (s := s) hw.1.1 hp with g | g
      · rw [lok_n hs (fun q => by have := q.2; omega), if_neg (by omega)]
        refine ok_bind (ok_some ?_)
        rw [if_neg (by simp [lcm_eq])]
        exact ok_bind (ok_some (ok_some ⟨rfl, M, vch_r _ _, rfl⟩))
      · rw [lok_y hs ⟨hp, g.1.1⟩]
        exact T _ g.1 (by rw [crk_tp hp g.2]; exact hw.2)
    · rw [bI_f hp, if_pos rfl, lok_n hs (fun q => hp q.1)]
      exact ok_bind (ok_some (ok_some N))
theorem datF_s (v : Int → Int) (a : Ab) (t : Int) (k : Nat) : datF v a t (k + 1) = if isP a 0 k ∧ ((k : Int) = t ∨ (0 < t ∧ 0 < (k : Int) ∧ a.par k = a.par t)) then pls (datF v a t k) (v k) 1 else datF v a t k := by
  rw [datF]
  simp only [show (0 < k) = (0 < (k : Int)) from propext ⟨fun g => by omega, fun g => by omega⟩]
theorem e_M_date_19 {a : Ab} (W : WFA a) (K : WFW a) {m : Int} (m0 : 0 ≤ m) (m1 : m < a.measures) {V : Hp → Int → Int → Int → Int → Int → Option (Int × Hp)} {d t x y : Int} (hV : mVok a m V (crk a t x y)) (hd : inD d) (h : cin a t x y) (hk : a.kind (12 * d + crd d t x y) = 2) {z : Int} (z0 : 0 ≤ z) (z1 : z < crd d t x y) (hp : isP a 0 (withD d z t x y).1) {b : Int} (b0 : 0 ≤ b) (b1 : b + 10 * crk a t x y ≤ 3690) {σ0 : Hp} : ∀ (F k : Nat) (σ : Hp), (k : Int) ≤ (withD d z t x y).1 + 1 → (withD d z t x y).1 + 1 - k < F → MS σ a → σ 129 46 = b → vch b σ0 σ → Okk (f_M_date_19 V d z x y m 0 (withD d z t x y).1 F (datF (fun k => val a m k (withD d z t x y).2.1 (withD d z t x y).2.2) a (withD d z t x y).1 k) k σ) fun r => r.1 = datF (fun k => val a m k (withD d z t x y).2.1 (withD d z t x y).2.2) a (withD d z t x y).1 ((withD d z t x y).1.toNat + 1) ∧ MS r.2.2 a ∧ vch b σ0 r.2.2 ∧ r.2.2 129 46 = b := by
  have hw := wd_in hd h hk z0 z1
  have t12 := thr12 W iD0 hw.1.1
  intro F
  induction F with
  | zero => intro k σ hk hF; omega
  | succ F ih =>
    intro k σ hk1 hF M hb hv
    rw [f_M_date_19]
    refine ok_ite (fun g => ok_some ⟨by rw [show (withD d z t x y).1.toNat + 1 = k by omega], M, hv, hb⟩) (fun g => ?_)
    refine ok_eqb (e_M_isPlain M.1 iD0 t12) ?_
    rw [bI_t hp, if_neg (by omega)]
    have k12 : 0 ≤ (k : Int) ∧ (k : Int) < 12 := by omega
    have tk : thr a 0 k := thr_lt hw.1.1 (by omega) (by omega)
    have e1 : datF (fun k => val a m k (withD d z t x y).2.1 (withD d z t x y).2.2) a (withD d z t x y).1 (k + 1) = if isP a 0 k ∧ ((k : Int) = (withD d z t x y).1 ∨ (0 < (withD d z t x y).1 ∧ 0 < (k : Int) ∧ a.par k = a.par (withD d z t x y).1)) then pls (datF (fun k => val a m k (withD d z t x y).2.1 (withD d z t x y).2.2) a (withD d z t x y).1 k) (val a m k (withD d z t x y).2.1 (withD d z t x y).2.2) 1 else datF (fun k => val a m k (withD d z t x y).2.1 (withD d z t x y).2.2) a (withD d z t x y).1 k := datF_s _ _ _ _
    have hst : ∀ (p s : Int) (σ' : Hp), p = datF (fun k => val a m k (withD d z t x y).2.1 (withD d z t x y).2.2) a (withD d z t x y).1 (k + 1) → s = ((k + 1 : Nat) : Int) → MS σ' a → σ' 129 46 = b → vch b σ0 σ' → Okk (f_M_date_19 V d z x y m 0 (withD d z t x y).1 F p s σ') fun r => r.1 = datF (fun k => val a m k (withD d z t x y).2.1 (withD d z t x y).2.2) a (withD d z t x y).1 ((withD d z t x y).1.toNat + 1) ∧ MS r.2.2 a ∧ vch b σ0 r.2.2 ∧ r.2.2 129 46 = b := by
      rintro p s σ' rfl rfl q1 q2 q3; exact ih (k + 1) σ' (by omega) (by omega) q1 q2 q3
    refine ok_call (P := fun r => (r = 1 ∧ isP a 0 k ∧ ((k : Int) = (withD d z t x y).1 ∨ (0 < (withD d z t x y).1 ∧ 0 < (k : Int) ∧ a.par k = a.par (withD d z t x y).1))) ∨ (r = 0 ∧ ¬ (isP a 0 k ∧ ((k : Int) = (withD d z t x y).1 ∨ (0 < (withD d z t x y).1 ∧ 0 < (k : Int) ∧ a.par k = a.par (withD d z t x y).1))))) ?_ ?_
    · refine ok_ite (fun g1 => ok_some (Or.inl ⟨rfl, by rw [g1]; exact hp, Or.inl g1⟩)) (fun g1 => ok_ite (fun g2 => ok_some (Or.inr ⟨rfl, fun q => by omega⟩)) (fun g2 => ok_ite (fun g3 => ok_some (Or.inr ⟨rfl, fun q => by omega⟩)) (fun g3 => ?_)))
      refine ok_eqb (e_M_isPlain M.1 iD0 k12) ?_
      by_cases pk : isP a 0 k
      · rw [bI_t pk, if_neg (by omega)]
        simp only [w_par M.1]
        exact ok_grd (by omega) (ok_grd (by omega) (ok_ite (fun g4 => ok_some (Or.inr ⟨rfl, fun q => by omega⟩)) (fun g4 => ok_some (Or.inl ⟨rfl, pk, Or.inr (by omega)⟩))))
      · rw [bI_f pk, if_pos rfl]; exact ok_some (Or.inr ⟨rfl, fun q => pk q.1⟩)
    · rintro r (⟨rfl, g1⟩ | ⟨rfl, g1⟩)
      · rw [if_neg (by omega)]
        refine ok_bind (ok_call (P := fun r => r = (withD d z t x y).2.1) ?_ ?_)
        · unfold withD
          exact ok_ite (fun g => ok_some (if_neg g).symm) (fun g => ok_some (if_pos (Classical.not_not.mp g)).symm)
        rintro j1 rfl
        refine ok_call (P := fun r => r = (withD d z t x y).2.2) ?_ ?_
        · unfold withD
          exact ok_ite (fun g => ok_some (if_neg g).symm) (fun g => ok_some (if_pos (Classical.not_not.mp g)).symm)
        rintro j2 rfl
        have hc : crk a k (withD d z t x y).2.1 (withD d z t x y).2.2 < crk a t x y := by rw [crk_tp hp g1.1]; exact hw.2
        refine ok_call (hV σ k _ _ M ⟨tk, hw.1.2⟩ hc (by omega) (by omega)) ?_
        rintro r ⟨r1, r2, r3, r4⟩
        rw [r1]
        refine ok_eqb (e_M_joined _ (by omega) (okv_datF k) (okv_val W K m0 m1 ⟨tk, hw.1.2⟩)) (ok_some (ok_grd (by (first | omega | (unfold r32; omega) | (unfold r64; omega) | (simp only [r32, r64] at *; omega))) ?_))
        refine hst _ _ _ ?_ (by omega) r2 (by rw [r4]; exact hb) (vch_t hv r3 (by omega))
        rw [e1, if_pos g1]; rfl
      · rw [if_pos rfl]
        refine ok_bind (ok_some (ok_grd (by (first | omega | (unfold r32; omega) | (unfold r64; omega) | (simp only [r32, r64] at *; omega))) (hst _ _ _ ?_ (by omega) M hb hv)))
        rw [e1, if_neg g1]
theorem e_M_date {a : Ab} (W : WFA a) (K : WFW a) {m : Int} (m0 : 0 ≤ m) (m1 : m < a.measures) {V : Hp → Int → Int → Int → Int → Int → Option (Int × Hp)} {d t x y : Int} (hV : mVok a m V (crk a t x y)) (hd : inD d) (h : cin a t x y) (hk : a.kind (12 * d + crd d t x y) = 2) {σ : Hp} (M : MS σ a) (b0 : 0 ≤ σ 129 46) (b1 : σ 129 46 + 10 * crk a t x y ≤ 3690) {z : Int} (z0 : 0 ≤ z) (z1 : z < crd d t x y) : Okk (f_M_date V σ d z t x y m 0) fun r => r.1 = datV (val a m) a d z t x y ∧ MS r.2 a ∧ vch (σ 129 46) σ r.2 ∧ r.2 129 46 = σ 129 46 := by
  have hw := wd_in hd h hk z0 z1
  have t12 := thr12 W iD0 hw.1.1
  unfold f_M_date datV
  refine ok_call (P := fun r => r = (withD d z t x y).1) ?_ ?_
  · unfold withD
    exact ok_ite (fun g => ok_some (if_neg g).symm) (fun g => ok_some (if_pos (Classical.not_not.mp g)).symm)
  rintro j rfl
  by_cases hp : isP a 0 (withD d z t x y).1
  · rw [if_pos hp]
    refine ok_call (e_M_date_19 W K m0 m1 hV hd h hk z0 z1 hp b0 b1 (σ0 := σ) zFuel 0 σ (by omega) (by unfold zFuel; omega) M rfl (vch_r _ _)) ?_
    rintro r ⟨r1, r2, r3, r4⟩
    exact ok_some ⟨r1, r2, r3, r4⟩
  · rw [if_neg hp]
    have e : f_M_date_19 V d z x y m 0 (withD d z t x y).1 zFuel (-9223372036854775808) 0 σ = some (zNO, 0, σ) := by
      show f_M_date_19 V d z x y m 0 (withD d z t x y).1 (999999 + 1) (-9223372036854775808) 0 σ = _
      rw [f_M_date_19, if_neg (by omega)]
      apply ok_eq
      refine ok_eqb (e_M_isPlain M.1 iD0 t12) ?_
      rw [bI_f hp, if_pos rfl]; exact ok_some rfl
    exact ok_eqb e (ok_some ⟨rfl, M, vch_r _ _, rfl⟩)
