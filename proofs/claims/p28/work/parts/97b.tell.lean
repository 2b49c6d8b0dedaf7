/-! ===== the law: what it tells of the cube ===== -/
section
variable {σ s : Hp} {a a' b : Ab} {n N : Nat} {B B' : Int} {e : Nat}
/-- the law's int[5] -/
def nA (σ : Hp) (a : Ab) : Prop := (∀ d : Int, inD d → σ 129 d = a.many d) ∧ σ 129 3 = a.measures ∧ σ 129 4 ≤ a.hits ∧ 1 ≤ a.measures
def lwV (x k : Int) : Int := Int.tmod (iand x 2147483647) k
theorem iand_nn (x : Int) : 0 ≤ iand x 2147483647 := by
  unfold iand
  rw [← Int32.toInt_toBitVec, Int32.toBitVec_and, BitVec.toInt_eq_msb_cond, BitVec.msb_and]
  have h : (Int32.ofInt 2147483647).toBitVec.msb = false := by decide
  rw [h, Bool.and_false]
  simp
theorem lw_b (x : Int) {k : Int} (h : 0 < k) : 0 ≤ lwV x k ∧ lwV x k < k := ⟨Int.tmod_nonneg _ (iand_nn x), Int.tmod_lt_of_pos _ h⟩
theorem e_low (σ : Hp) (x : Int) {k : Int} (h : 0 < k) : f_L_low σ x k = some (lwV x k) := by unfold f_L_low; exact grd_t h
noncomputable def mAt (a : Ab) (d m w : Int) : Int := if w = 0 then a.kind (12 * d + m) else if w = 1 then (if isP a d m ∧ 0 < m then now a d m else -1) else if w = 2 then (if isP a d m then dep a d m else -1) else if w = 3 then (if isP a d m ∧ d = 0 then a.place m else -1) else bI (seeP a d m)
theorem j_memberAt (H : J σ a N B) {d m w : Int} (hd : inD d) (ht : thr a d m) (hw : 0 ≤ w ∧ w ≤ 4) : Okk (f_C_memberAt σ d m w) fun r => r.1 = 0 ∧ r.2 = mAt a d m w := by
  refine ok_mono (i_memberAt H d m w) ?_
  rintro r ⟨r1, r2⟩
  have h0 : r.1 = 0 := Classical.byContradiction (fun q => r2 q ⟨⟨hd, ht⟩, hw⟩)
  obtain ⟨b, _, b2⟩ := r1 h0
  exact ⟨h0, b2⟩
theorem mAt_0 (a : Ab) (d m : Int) : mAt a d m 0 = a.kind (12 * d + m) := by unfold mAt; exact if_pos rfl
theorem mAt_1 (W : WFA a) {d m : Int} (hd : inD d) (ht : thr a d m) : -1 ≤ mAt a d m 1 ∧ mAt a d m 1 ≤ 12 := by
  have m12 := thr12 W hd ht
  unfold mAt
  rw [if_neg (show ¬ (1 : Int) = 0 by omega), if_pos rfl]
  by_cases p : isP a d m ∧ 0 < m
  · rw [if_pos p]; have := now_b W hd ht p.1 p.2; omega
  · rw [if_neg p]; omega
theorem mAt_2e (a : Ab) (d m : Int) : mAt a d m 2 = if isP a d m then dep a d m else -1 := by
  unfold mAt
  rw [if_neg (show ¬ (2 : Int) = 0 by omega), if_neg (show ¬ (2 : Int) = 1 by omega), if_pos rfl]
theorem mAt_2 (W : WFA a) {d m : Int} (hd : inD d) (ht : thr a d m) : -1 ≤ mAt a d m 2 ∧ mAt a d m 2 ≤ 12 := by
  have m12 := thr12 W hd ht
  rw [mAt_2e]
  by_cases p : isP a d m
  · rw [if_pos p]; have := dep_r W hd ht p; omega
  · rw [if_neg p]; omega
theorem mAt_4 (a : Ab) (d m : Int) : mAt a d m 4 = bI (seeP a d m) := by
  unfold mAt
  rw [if_neg (show ¬ (4 : Int) = 0 by omega), if_neg (show ¬ (4 : Int) = 1 by omega), if_neg (show ¬ (4 : Int) = 2 by omega), if_neg (show ¬ (4 : Int) = 3 by omega)]
/-- a cell's value anew -/
theorem j_cellAnew (H : J σ a N B) (hB : B ≤ 100000) {t x y m : Int} (h : mem4 a t x y m) : Okk (f_C_cellAnew σ t x y m) fun r => r.1 = 0 ∧ r.2.1 = aV a m (t, x, y) ∧ kpQ σ r.2.2 ∧ J r.2.2 a N (B + 60) := by
  refine ok_mono (i_cellAnew H hB t x y m) ?_
  rintro r ⟨_, a', r1, r2, r3, r4⟩
  have h0 : r.1 = 0 := Classical.byContradiction (fun q => (r2 q).2 h)
  obtain ⟨e1, e2⟩ := r1 h0
  subst e1
  exact ⟨h0, e2, r3, r4⟩
noncomputable def tlM (a : Ab) (d m : Int) : Int := mAt a d m 1 + 20 * mAt a d m 2 + 400 * mAt a d m 4
noncomputable def tlV (a : Ab) (m k : Int) : Int := aV a m (lwV k (a.many 0), lwV (2 * k) (a.many 1), lwV k (a.many 2))
noncomputable def tlC (a : Ab) (m k : Int) : Int := if tlV a m k = zNO then -1 else Int.tmod (tlV a m k) 1000000007
/-- what the law writes down of the cube -/
noncomputable def tgt (a : Ab) (j : Int) : Int := if j < 36 then (if j % 12 < a.many (j / 12) then tlM a (j / 12) (j % 12) else 0) else if j < 48 then (if (j - 36) / 3 < a.measures then tlC a ((j - 36) / 3) ((j - 36) % 3) else 0) else if j = 50 then a.facts else if j = 51 then a.keeps else if j = 52 then a.hits else 0
theorem tgt_m (a : Ab) {d m : Int} (hd : inD d) (h0 : 0 ≤ m) (h1 : m < 12) : tgt a (12 * d + m) = if m < a.many d then tlM a d m else 0 := by
  have := inD_b hd
  unfold tgt
  rw [if_pos (by omega), show (12 * d + m) % 12 = m by omega, show (12 * d + m) / 12 = d by omega]
theorem tgt_c (a : Ab) {m k : Int} (h0 : 0 ≤ m) (h1 : m < 4) (k0 : 0 ≤ k) (k1 : k < 3) : tgt a (36 + 3 * m + k) = if m < a.measures then tlC a m k else 0 := by
  unfold tgt
  rw [if_neg (by omega), if_pos (by omega), show (36 + 3 * m + k - 36) / 3 = m by omega, show (36 + 3 * m + k - 36) % 3 = k by omega]
def rowTo (s : Hp) (T : Nat) (X : Int) (a : Ab) : Prop := ∀ j : Int, 0 ≤ j → s T j = if j < X then tgt a j else 0
theorem row_st {T : Nat} {X : Int} {v : Int} (H : rowTo s T X a) (X0 : 0 ≤ X) (hv : v = tgt a X) : rowTo (hset s T X v) T (X + 1) a := by
  intro j j0
  by_cases q : j = X
  · rw [q, hs_eq, if_pos (by omega)]; exact hv
  · rw [hs_nj q, H j j0]; exact ifc (by omega) rfl rfl
theorem row_up {T : Nat} {X Y : Int} (H : rowTo s T X a) (h : X ≤ Y) (hz : ∀ j : Int, X ≤ j → j < Y → tgt a j = 0) : rowTo s T Y a := by
  intro j j0
  rw [H j j0]
  by_cases q : j < X
  · rw [if_pos q, if_pos (by omega)]
  · rw [if_neg q]
    by_cases w : j < Y
    · rw [if_pos w, hz j (by omega) w]
    · rw [if_neg w]
theorem row_c {r : Hp} {T : Nat} {X : Int} (H : rowTo s T X a) (h : r T = s T) : rowTo r T X a := by
  intro j j0; rw [h]; exact H j j0
theorem l_tell15 (H : J σ a N B) (A : nA σ a) {d : Int} (hd : inD d) : ∀ (F : Nat) (y : Int) (s : Hp), 0 ≤ y → y ≤ a.many d → a.many d - y < F → (∀ q : Nat, q ≠ 1048576 + n / 1048576 → s q = σ q) → rowTo s (1048576 + n / 1048576) (12 * d + y) a → Okk (f_L_tell_15 n d F y s) fun r => (∀ q : Nat, q ≠ 1048576 + n / 1048576 → r.2 q = σ q) ∧ rowTo r.2 (1048576 + n / 1048576) (12 * d + 12) a := by
  have hd' := inD_b hd
  have mb := many_b H.1 hd
  intro F
  induction F with
  | zero => intro y s y0 y1 hF; omega
  | succ F ih =>
    intro y s y0 y1 hF E R
    rw [f_L_tell_15]
    refine ok_grd (by omega) ?_
    rw [show s 129 d = a.many d by rw [E 129 (by omega)]; exact A.1 d hd]
    refine ok_ite (fun g => ok_some ⟨E, row_up R (by omega) (fun j j0 j1 => ?_)⟩) (fun g => ?_)
    · have w := tgt_m a hd (m := j - 12 * d) (by omega) (by omega)
      rw [show 12 * d + (j - 12 * d) = j by omega, if_neg (by omega)] at w
      exact w
    · have ht : thr a d y := ⟨y0, by omega⟩
      have Js : J s a N B := J_h H (fun q hq => E q (by omega))
      have b1 := mAt_1 H.1 hd ht
      have b2 := mAt_2 H.1 hd ht
      have b4 := bI_r (seeP a d y)
      rw [← mAt_4] at b4
      refine ok_grd (by unfold r32; omega) (ok_grd (by unfold r32; omega) (ok_call (j_memberAt Js hd ht (by omega)) ?_))
      rintro v8 ⟨p1, p2⟩
      refine ok_grd p1 (ok_call (j_memberAt Js hd ht (by omega)) ?_)
      rintro v11 ⟨q1, q2⟩
      refine ok_grd q1 ?_
      rw [p2, q2]
      refine ok_grd (by unfold r32; omega) (ok_grd (by unfold r32; omega) (ok_call (j_memberAt Js hd ht (by omega)) ?_))
      rintro v16 ⟨t1, t2⟩
      refine ok_grd t1 ?_
      rw [t2]
      refine ok_grd (by unfold r32; omega) (ok_grd (by unfold r32; omega) (ok_grd (by omega) (ok_grd (by unfold r32; omega) ?_)))
      refine ih (y + 1) _ (by omega) (by omega) (by omega) (fun q hq => by rw [hset_ne hq]; exact E q hq) ?_
      rw [show 12 * d + (y + 1) = 12 * d + y + 1 by omega]
      refine row_st R (by omega) ?_
      rw [tgt_m a hd y0 (by omega), if_pos (by omega)]; rfl
theorem l_tell7 (H : J σ a N B) (A : nA σ a) : ∀ (F : Nat) (y : Int) (s : Hp), 0 ≤ y → y ≤ 3 → 3 - y < F → (∀ q : Nat, q ≠ 1048576 + n / 1048576 → s q = σ q) → rowTo s (1048576 + n / 1048576) (12 * y) a → Okk (f_L_tell_7 n F y s) fun r => (∀ q : Nat, q ≠ 1048576 + n / 1048576 → r.2 q = σ q) ∧ rowTo r.2 (1048576 + n / 1048576) 36 a := by
  intro F
  induction F with
  | zero => intro y s y0 y1 hF; omega
  | succ F ih =>
    intro y s y0 y1 hF E R
    rw [f_L_tell_7]
    refine ok_ite (fun g => ok_some ⟨E, by rw [show (36 : Int) = 12 * y by omega]; exact R⟩) (fun g => ?_)
    have hd : inD y := inD_of (by omega)
    have mb := many_b H.1 hd
    refine ok_call (l_tell15 H A hd zFuel 0 s (by omega) (by omega) (by unfold zFuel; omega) E (by rw [show 12 * y + 0 = 12 * y by omega]; exact R)) ?_
    rintro r ⟨r1, r2⟩
    refine ok_grd (by unfold r32; omega) (ih (y + 1) r.2 (by omega) (by omega) (by omega) r1 ?_)
    rw [show 12 * (y + 1) = 12 * y + 12 by omega]; exact r2
def tlK (σ s : Hp) (n : Nat) : Prop := s 129 = σ 129 ∧ ∀ q : Nat, 1048576 ≤ q → q ≠ 1048576 + n / 1048576 → s q = σ q
theorem l_tell89 (A : nA σ a) (hB : B ≤ 99000) {m : Int} (m0 : 0 ≤ m) (m1 : m < a.measures) : ∀ (F : Nat) (k : Int) (s : Hp), 0 ≤ k → k ≤ 3 → 3 - k < F → J s a N (B + 180 * m + 60 * k) → tlK σ s n → rowTo s (1048576 + n / 1048576) (36 + 3 * m + k) a → Okk (f_L_tell_89 n m F k s) fun r => J r.2 a N (B + 180 * m + 180) ∧ tlK σ r.2 n ∧ rowTo r.2 (1048576 + n / 1048576) (36 + 3 * m + 3) a := by
  intro F
  induction F with
  | zero => intro k s k0 k1 hF; omega
  | succ F ih =>
    intro k s k0 k1 hF Js K R
    have W := Js.1
    have m4 := (mea W m0 m1).1
    rw [f_L_tell_89]
    refine ok_ite (fun g => ok_some ⟨by rw [show B + 180 * m + 180 = B + 180 * m + 60 * k by omega]; exact Js, K, by rw [show 36 + 3 * m + 3 = 36 + 3 * m + k by omega]; exact R⟩) (fun g => ?_)
    rw [K.1, A.1 0 iD0, A.1 1 iD1, A.1 2 iD2]
    have n0 := many_b W iD0
    have n1 := many_b W iD1
    have n2 := many_b W iD2
    have l0 := lw_b k (k := a.many 0) (by omega)
    have l1 := lw_b (2 * k) (k := a.many 1) (by omega)
    have l2 := lw_b k (k := a.many 2) (by omega)
    refine ok_grd (by omega) (ok_eqb (e_low s k (by omega)) (ok_grd (by unfold r32; omega) (ok_grd (by omega) (ok_eqb (e_low s (2 * k) (by omega)) (ok_grd (by omega) (ok_eqb (e_low s k (by omega)) ?_))))))
    refine ok_call (j_cellAnew Js (by omega) ⟨⟨l0.1, l0.2⟩, ⟨l1.1, l1.2⟩, ⟨l2.1, l2.2⟩, m0, m1⟩) ?_
    rintro v ⟨v1, v2, v3, v4⟩
    refine ok_grd v1 (ok_grd (by unfold r32; omega) (ok_grd (by unfold r32; omega) (ok_grd (by unfold r32; omega) (ok_call (P := fun j => j = tlC a m k) ?_ ?_))))
    · have b1 := Int.tmod_lt_of_pos v.2.1 (show (0 : Int) < 1000000007 by omega)
      have b2 := Int.lt_tmod_of_pos v.2.1 (show (0 : Int) < 1000000007 by omega)
      refine ok_ite (fun g => ok_grd (by omega) (ok_grd (by unfold r32; omega) (ok_some ?_))) (fun g => ok_some ?_)
      · have z : ¬ tlV a m k = zNO := fun q => g (lcm_eq.mpr (by rw [v2]; exact q))
        unfold tlC; rw [if_neg z, v2]; rfl
      · have z : tlV a m k = zNO := by
          have := lcm_eq.mp (Classical.not_not.mp g)
          rw [v2] at this; exact this
        unfold tlC; rw [if_pos z]
    · rintro j rfl
      refine ok_grd (by omega) (ok_grd (by unfold r32; omega) ?_)
      refine ih (k + 1) _ (by omega) (by omega) (by omega) ?_ ⟨?_, fun q q1 q2 => ?_⟩ ?_
      · rw [show B + 180 * m + 60 * (k + 1) = B + 180 * m + 60 * k + 60 by omega]
        exact J_h v4 (fun q hq => hset_ne (by omega))
      · rw [hset_ne (by omega), v3 129 (by omega) (by omega)]; exact K.1
      · rw [hset_ne q2, v3 q (by omega) (by omega)]; exact K.2 q q1 q2
      · rw [show 36 + 3 * m + (k + 1) = 36 + 3 * m + k + 1 by omega]
        refine row_st (row_c R (v3 _ (by omega) (by omega))) (by omega) ?_
        rw [tgt_c a m0 m4 k0 (by omega), if_pos m1]
theorem l_tell79 (A : nA σ a) (hB : B ≤ 99000) : ∀ (F : Nat) (m : Int) (s : Hp), 0 ≤ m → m ≤ a.measures → a.measures - m < F → J s a N (B + 180 * m) → tlK σ s n → rowTo s (1048576 + n / 1048576) (36 + 3 * m) a → Okk (f_L_tell_79 n F m s) fun r => J r.2 a N (B + 720) ∧ tlK σ r.2 n ∧ rowTo r.2 (1048576 + n / 1048576) 48 a := by
  intro F
  induction F with
  | zero => intro m s m0 m1 hF; omega
  | succ F ih =>
    intro m s m0 m1 hF Js K R
    have W := Js.1
    have h10 : 0 ≤ a.measures ∧ a.measures ≤ 4 ∧ _ := W 10
    rw [f_L_tell_79, K.1, A.2.1]
    refine ok_grd (by omega) (ok_ite (fun g => ok_some ⟨J_up Js (by omega), K, row_up R (by omega) (fun j j0 j1 => ?_)⟩) (fun g => ?_))
    · have w := tgt_c a (m := (j - 36) / 3) (k := (j - 36) % 3) (by omega) (by omega) (by omega) (by omega)
      rw [show 36 + 3 * ((j - 36) / 3) + (j - 36) % 3 = j by omega, if_neg (by omega)] at w
      exact w
    · refine ok_call (l_tell89 A hB m0 (by omega) zFuel 0 s (by omega) (by omega) (by unfold zFuel; omega) (by rw [show B + 180 * m + 60 * 0 = B + 180 * m by omega]; exact Js) K (by rw [show 36 + 3 * m + 0 = 36 + 3 * m by omega]; exact R)) ?_
      rintro r ⟨r1, r2, r3⟩
      refine ok_grd (by unfold r32; omega) (ih (m + 1) r.2 (by omega) (by omega) (by omega) ?_ r2 ?_)
      · rw [show B + 180 * (m + 1) = B + 180 * m + 180 by omega]; exact r1
      · rw [show 36 + 3 * (m + 1) = 36 + 3 * m + 3 by omega]; exact r3
/-- tell: its row is what the cube is, and the cube stays -/
theorem l_tell (H : J σ a N B) (A : nA σ a) (hB : B ≤ 99000) : Okk (f_L_tell σ n) fun r => r.1 = 1048576 + n / 1048576 ∧ r.2.1 = n + 1048576 ∧ J r.2.2 a N (B + 720) ∧ tlK σ r.2.2 n ∧ ∀ j : Int, 0 ≤ j → r.2.2 (1048576 + n / 1048576) j = tgt a j := by
  have W := H.1
  have h10 : 0 ≤ a.measures ∧ a.measures ≤ 4 ∧ _ := W 10
  have E0 : ∀ q : Nat, q ≠ 1048576 + n / 1048576 → zTmp σ (1048576 + n / 1048576) q = σ q := fun q hq => by funext j; unfold zTmp; rw [if_neg hq]
  have R0 : rowTo (zTmp σ (1048576 + n / 1048576)) (1048576 + n / 1048576) (12 * 0) a := fun j j0 => by
    rw [if_neg (by omega)]; unfold zTmp; rw [if_pos rfl]
  unfold f_L_tell
  refine ok_call (l_tell7 H A zFuel 0 _ (by omega) (by omega) (by unfold zFuel; omega) E0 R0) ?_
  rintro r ⟨r1, r2⟩
  have Jr : J r.2 a N (B + 180 * 0) := by
    rw [show B + 180 * 0 = B by omega]; exact J_h H (fun q hq => r1 q (by omega))
  refine ok_call (l_tell79 (σ := σ) A hB zFuel 0 r.2 (by omega) (by omega) (by unfold zFuel; omega) Jr ⟨r1 129 (by omega), fun q q1 q2 => r1 q q2⟩ (by rw [show (36 : Int) + 3 * 0 = 36 by omega]; exact r2)) ?_
  rintro u ⟨u1, u2, u3⟩
  refine ok_eqb (i_facts u1) (ok_grd (by omega) (ok_eqb (i_kept (J_h u1 (fun q hq => hset_ne (by omega)))) (ok_grd (by omega) (ok_eqb (i_hits (J_h u1 (fun q hq => by rw [hset_ne (by omega), hset_ne (by omega)]))) (ok_grd (by omega) (ok_some ⟨rfl, rfl, J_h u1 (fun q hq => by dsimp only; rw [hset_ne (by omega), hset_ne (by omega), hset_ne (by omega)]), ⟨?_, fun q q1 q2 => ?_⟩, fun j j0 => ?_⟩))))))
  · dsimp only; rw [hset_ne (by omega), hset_ne (by omega), hset_ne (by omega)]; exact u2.1
  · dsimp only; rw [hset_ne q2, hset_ne q2, hset_ne q2]; exact u2.2 q q1 q2
  · dsimp only
    rw [hs_if, hs_if, hs_if, u3 j j0]
    by_cases c : j < 48
    · rw [if_neg (by omega), if_neg (by omega), if_neg (by omega), if_pos c]
    · rw [if_neg c]
      unfold tgt
      rw [if_neg (show ¬ j < 36 by omega), if_neg c]
      by_cases c0 : j = 50
      · rw [if_neg (by omega), if_neg (by omega), if_pos c0, if_pos c0]
      · rw [if_neg c0, if_neg c0]
        by_cases c1 : j = 51
        · rw [if_neg (by omega), if_pos c1, if_pos c1]
        · rw [if_neg c1, if_neg c1]
/-- rows that are the same -/
theorem l_same {P Q : Nat} (h : ∀ j : Int, 0 ≤ j → s P j = s Q j) : f_L_same s P Q = some 1 := by
  have L : ∀ (F : Nat) (y : Int), 0 ≤ y → y ≤ 60 → 60 - y < F → Okk (f_L_same_2 s P Q F y) fun r => r = 1 := by
    intro F
    induction F with
    | zero => intro y y0 y1 hF; omega
    | succ F ih =>
      intro y y0 y1 hF
      rw [f_L_same_2]
      refine ok_ite (fun g => ok_grd (by omega) (ok_some rfl)) (fun g => ok_grd (by omega) (ok_grd (by omega) ?_))
      rw [if_pos (h y y0)]
      exact ok_grd (by unfold r32; omega) (ih (y + 1) (by omega) (by omega) (by omega))
  unfold f_L_same
  exact ok_eq (L zFuel 0 (by omega) (by omega) (by unfold zFuel; omega))
end
