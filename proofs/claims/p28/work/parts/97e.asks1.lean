/-! ===== the law: what it asks, in the cube's terms ===== -/
section
variable {σ s : Hp} {a a' b : Ab} {n N : Nat} {B B' : Int} {e : Nat} {d m : Int}
theorem see_c (S : smem a a') (d m : Int) : seeP a' d m ↔ seeP a d m := by
  have h131 : a'.kind = a.kind := S.1 131 (by omega)
  exact seeP_c (sm_p S) (S.1 136 (by omega)) (S.1 134 (by omega)) (by rw [h131])
theorem aV_c (W : WFA a) (K : WFW a) (S : sval a a') {c : Int × Int × Int} (h : cin3 a c) : aV a' m c = aV a m c := by
  unfold aV
  have e : (seeP a' 0 c.1 ∧ seeP a' 1 c.2.1 ∧ seeP a' 2 c.2.2) ↔ (seeP a 0 c.1 ∧ seeP a 1 c.2.1 ∧ seeP a 2 c.2.2) := by rw [see_c S.1, see_c S.1, see_c S.1]
  by_cases g : seeP a 0 c.1 ∧ seeP a 1 c.2.1 ∧ seeP a 2 c.2.2
  · rw [if_pos g, if_pos (e.mpr g)]; exact val_cc W K S h
  · rw [if_neg g, if_neg (fun q => g (e.mp q))]
theorem aV_b (W : WFA a) (K : WFW a) (m0 : 0 ≤ m) (m1 : m < a.measures) {c : Int × Int × Int} (h : cin3 a c) : aV a m c ≤ 9223372036854775807 := by
  unfold aV
  by_cases g : seeP a 0 c.1 ∧ seeP a 1 c.2.1 ∧ seeP a 2 c.2.2
  · rw [if_pos g]
    rcases okv_val W K m0 m1 h with q | q
    · rw [q]; unfold zNO; omega
    · unfold zMOST at q; omega
  · rw [if_neg g]; unfold zNO; omega
/-! pairs are counted once, whichever way -/
def lnS (f : Nat → Int) : Nat → Int
  | 0 => 0
  | j + 1 => lnS f j + f j
def sqS (f : Nat → Nat → Int) : Nat → Nat → Int
  | 0, _ => 0
  | i + 1, j => sqS f i j + lnS (f i) j
theorem sq_j (f : Nat → Nat → Int) (j : Nat) : ∀ i : Nat, sqS f i (j + 1) = sqS f i j + lnS (fun i' => f i' j) i
  | 0 => rfl
  | i + 1 => by
    show sqS f i (j + 1) + (lnS (f i) j + f i j) = sqS f i j + lnS (f i) j + (lnS (fun i' => f i' j) i + f i j)
    rw [sq_j f j i]; omega
theorem sq_0 (f : Nat → Nat → Int) : ∀ i : Nat, sqS f i 0 = 0
  | 0 => rfl
  | i + 1 => by
    show sqS f i 0 + 0 = 0
    rw [sq_0 f i]; rfl
theorem sq_t (f : Nat → Nat → Int) (i : Nat) : ∀ j : Nat, sqS f i j = sqS (fun x y => f y x) j i
  | 0 => sq_0 f i
  | j + 1 => by
    show sqS f i (j + 1) = sqS (fun x y => f y x) j i + lnS (fun y => f y j) i
    rw [sq_j, sq_t f i j]
theorem crI_e (a : Ab) (m d1 d2 i : Int) : ∀ j : Nat, crI a m d1 d2 i j = lnS (fun j' => if aV a m (crC a d1 d2 i j') = zNO then 0 else 1) j
  | 0 => rfl
  | j + 1 => by
    show crI a m d1 d2 i j + (if aV a m (crC a d1 d2 i j) = zNO then 0 else 1) = lnS _ j + (if aV a m (crC a d1 d2 i j) = zNO then 0 else 1)
    rw [crI_e a m d1 d2 i j]
theorem crO_e (a : Ab) (m d1 d2 : Int) : ∀ i : Nat, crO a m d1 d2 i = sqS (fun i' j' => if aV a m (crC a d1 d2 i' j') = zNO then 0 else 1) i (a.picks d2).toNat
  | 0 => rfl
  | i + 1 => by
    show crO a m d1 d2 i + crI a m d1 d2 i (a.picks d2).toNat = sqS _ i (a.picks d2).toNat + lnS _ (a.picks d2).toNat
    rw [crO_e a m d1 d2 i, crI_e]
theorem wD_sw {d1 d2 z1 z2 : Int} (h1 : inD d1) (h2 : inD d2) (hne : d1 ≠ d2) (c : Int × Int × Int) : wD d2 z2 (wD d1 z1 c) = wD d1 z1 (wD d2 z2 c) := by
  rcases h1 with rfl | rfl | rfl <;> rcases h2 with rfl | rfl | rfl <;> first | exact absurd rfl hne | simp [wD, withD]
theorem crO_t (a : Ab) (m : Int) {d1 d2 : Int} (h1 : inD d1) (h2 : inD d2) (hne : d1 ≠ d2) : crO a m d1 d2 (a.picks d1).toNat = crO a m d2 d1 (a.picks d2).toNat := by
  rw [crO_e, crO_e, sq_t]
  have e : (fun (x y : Nat) => if aV a m (crC a d1 d2 y x) = zNO then (0 : Int) else 1) = (fun (i' j' : Nat) => if aV a m (crC a d2 d1 i' j') = zNO then (0 : Int) else 1) := by
    funext x y
    have : crC a d1 d2 y x = crC a d2 d1 x y := wD_sw h1 h2 hne _
    rw [this]
  rw [e]
theorem crO_m (a : Ab) (m d1 d2 : Int) (h : 0 ≤ a.picks d2) : ∀ i : Nat, 0 ≤ crO a m d1 d2 i ∧ crO a m d1 d2 i ≤ (i : Int) * a.picks d2
  | 0 => by show (0 : Int) ≤ 0 ∧ (0 : Int) ≤ ((0 : Nat) : Int) * a.picks d2; rw [show ((0 : Nat) : Int) = 0 from rfl, Int.zero_mul]; omega
  | i + 1 => by
    have ih := crO_m a m d1 d2 h i
    have g := crI_b a m d1 d2 i (a.picks d2).toNat
    show 0 ≤ crO a m d1 d2 i + crI a m d1 d2 i (a.picks d2).toNat ∧ crO a m d1 d2 i + crI a m d1 d2 i (a.picks d2).toNat ≤ ((i + 1 : Nat) : Int) * a.picks d2
    rw [show ((i + 1 : Nat) : Int) = (i : Int) + 1 from rfl, Int.add_mul, Int.one_mul]
    omega
/-! the calls, where nothing is thrown -/
theorem j_picked (H : J σ a N B) (hd : inD d) {k : Int} (hk : 0 ≤ k) : Okk (f_C_picked σ d k) fun r => r.1 = 0 ∧ r.2 = if k < a.picks d then a.pick (12 * d + k) else -1 := by
  refine ok_mono (i_picked H d k) ?_
  rintro r ⟨r1, r2⟩
  have h0 : r.1 = 0 := Classical.byContradiction (fun q => r2 q ⟨hd, hk⟩)
  obtain ⟨b, _, b2⟩ := r1 h0
  exact ⟨h0, b2⟩
theorem j_at (H : J σ a N B) (hd : inD d) (ht : thr a d m) : Okk (f_C_at σ d m) fun r => r.1 = 0 ∧ kpQ σ r.2.2 ∧ J r.2.2 (hset a 163 d m) N (B + 60) := by
  refine ok_mono (i_at H d m) ?_
  rintro r ⟨_, a', r1, r2, r3, r4⟩
  have h0 : r.1 = 0 := Classical.byContradiction (fun q => (r2 q).2 ⟨hd, ht⟩)
  have e1 := r1 h0
  dsimp only at e1
  subst e1
  exact ⟨h0, r3, r4⟩
theorem j_cross (H : J σ a N B) (hB : B ≤ 100000) {d1 d2 : Int} (h1 : inD d1) (h2 : inD d2) (hm : 0 ≤ m ∧ m < a.measures) (hne : d1 ≠ d2) : Okk (f_C_cross σ d1 d2 m) fun r => r.1 = 0 ∧ r.2.1 = crO a m d1 d2 (a.picks d1).toNat ∧ kpQ σ r.2.2 ∧ J r.2.2 a N (B + 60) := by
  refine ok_mono (i_cross H hB d1 d2 m) ?_
  rintro r ⟨_, a', r1, r2, r3, r4⟩
  have h0 : r.1 = 0 := Classical.byContradiction (fun q => (r2 q).2 ⟨⟨⟨h1, h2⟩, hm⟩, hne⟩)
  obtain ⟨e1, e2⟩ := r1 h0
  subst e1
  exact ⟨h0, e2, r3, r4⟩
theorem y_pickC (H : J σ a N B) (hB : B ≤ 100000) {d h z m top : Int} (hC : pkA1 a d h z m top ∧ pkA2 h z top ∧ (h ≠ 2 → isP a d z)) : Okk (f_L_picks σ e d h z m top) fun r => r.2.1 ≤ e + 1 ∧ kpQ σ r.2.2 ∧ ∃ a', pkT a d h z m top r.1 a' ∧ J r.2.2 a' N (B + 60) := by
  unfold f_L_picks
  refine ok_call (i_pick H hB d h z m top) ?_
  rintro r ⟨_, a', r1, r2, r3, r4⟩
  have h0 : r.1 = 0 := Classical.byContradiction (fun q => (r2 q).2 hC)
  rw [if_pos h0]
  exact ok_some ⟨Nat.le_succ _, r3, a', r1 h0, r4⟩
/-- a cell with its value, kept -/
def hasC (a : Ab) (c : Int) : Prop := ∃ k : Int, 0 ≤ k ∧ k < a.keeps ∧ a.kept k = c
theorem j_cell (H : J σ a N B) (hB : B ≤ 100000) {t x y m : Int} (h : mem4 a t x y m) : Okk (f_C_cell σ t x y m) fun r => r.1 = 0 ∧ r.2.1 = aV a m (t, x, y) ∧ kpQ σ r.2.2 ∧ ∃ a', J r.2.2 a' N (B + 60) ∧ sval a a' ∧ a.hits ≤ a'.hits ∧ ((seeP a 0 t ∧ seeP a 1 x ∧ seeP a 2 y) → hasC a' (cod t x y m) ∧ (hasC a (cod t x y m) → a'.hits = a.hits + 1)) ∧ (¬ (seeP a 0 t ∧ seeP a 1 x ∧ seeP a 2 y) → a'.hits = a.hits) := by
  have W := H.1
  refine ok_mono (i_cell H hB t x y m) ?_
  rintro r ⟨_, a', r1, r2, r3, r4⟩
  have h0 : r.1 = 0 := Classical.byContradiction (fun q => (r2 q).2 h)
  rcases r1 h0 with ⟨hs, e1, D⟩ | ⟨hs, e1, e2⟩
  · have ev : r.2.1 = aV a m (t, x, y) := by unfold aV; rw [if_pos hs]; exact e1
    rcases D with ⟨hk, e2⟩ | ⟨hk, e2⟩
    · subst e2
      have hh : (htA a).hits = a.hits + 1 := by unfold Ab.hits htA; exact hs_eq
      have k1 : (htA a).keeps = a.keeps := ht_j (by omega)
      have k2 : (htA a).kept = a.kept := ht_q (by omega)
      exact ⟨h0, ev, r3, htA a, r4, ht_V, by omega, fun _ => ⟨by unfold hasC; rw [k1, k2]; exact hk, fun _ => hh⟩, fun q => absurd hs q⟩
    · subst e2
      have V := kp_V (a := a) (c := cod t x y m)
      have hh := V.2.2.2.2.2.2.1
      have kk := kp_k W (c := cod t x y m)
      have h14 : 0 ≤ a.keeps ∧ a.keeps ≤ 20 ∧ _ := W 14
      refine ⟨h0, ev, r3, kpA a (cod t x y m), r4, V.1, by omega, fun _ => ⟨?_, fun q => absurd q hk⟩, fun q => absurd hs q⟩
      by_cases g : a.keeps < 20
      · rw [if_pos g, if_pos g] at kk
        refine ⟨a.keeps, h14.1, by rw [kk.1]; omega, ?_⟩
        rw [kk.2 a.keeps h14.1 (by omega), if_neg (by omega)]
      · rw [if_neg g, if_neg g] at kk
        refine ⟨19, by omega, by rw [kk.1]; omega, ?_⟩
        rw [kk.2 19 (by omega) (by omega), if_neg (by omega)]
  · subst e2
    have ev : r.2.1 = aV a' m (t, x, y) := by unfold aV; rw [if_neg hs]; exact e1
    exact ⟨h0, ev, r3, a', r4, ⟨⟨fun _ _ => rfl, rfl⟩, ⟨rfl, rfl, rfl, rfl, rfl⟩, ⟨rfl, rfl⟩, fun _ _ _ => rfl, rfl, fun _ _ => ⟨rfl, rfl, rfl⟩, fun _ _ => rfl⟩, Int.le_refl _, fun q => absurd q hs, fun _ => rfl⟩
theorem nA_k (A : nA σ a) (h : s 129 = σ 129) (S : smem a a') (M : a'.measures = a.measures) (hh : a.hits ≤ a'.hits) : nA s a' := by
  have h130 : a'.many = a.many := S.1 130 (by omega)
  exact ⟨fun d hd => by rw [h, h130]; exact A.1 d hd, by rw [h, M]; exact A.2.1, by rw [h]; have := A.2.2.1; omega, by rw [M]; exact A.2.2.2⟩
theorem isP_0 (W : WFA a) (hd : inD d) : isP a d 0 := by
  have g := (show ∀ d : Int, inD d → a.kind (12 * d) = 0 ∧ a.hid (12 * d) = 0 ∧ a.par (12 * d) = -1 from W 1) d hd
  show a.kind (12 * d + 0) = 0
  rw [show 12 * d + 0 = 12 * d by omega]; exact g.1
/-- the last questions: pairs, and what is not picked -/
theorem l_451 (H : J σ a N B) (A : nA σ a) (hB : B ≤ 99000) (hd : inD d) {o : Int} (ho : inD o) (hne : d ≠ o) (hm : 0 ≤ m ∧ m < a.measures) {c k : Int} (hk : k = a.picks d) (k3 : k ≤ 3) (kc : k ≤ c) : Okk (f_L_asks_c451 σ e m d o c k) fun r => r.1 = 1 ∧ r.2.1 ≤ e + 1 ∧ ∃ a', nA r.2.2 a' ∧ J r.2.2 a' N (B + 180) := by
  have W := H.1
  have k0 : 0 ≤ k := by rw [hk]; exact (pck_b W hd).1
  have mo := many_b W ho
  have po := isP_0 W ho
  unfold f_L_asks_c451
  refine ok_call (y_pickC H (by omega) ⟨⟨ho, fun _ => ⟨by omega, by omega⟩, fun q => absurd rfl q⟩, ⟨by omega, by omega, fun q => by omega⟩, fun _ => po⟩) ?_
  rintro r ⟨r1, rK, b, ⟨row, eb, r2, r3, _⟩, rJ⟩
  have Sb : smem a b := by rw [eb]; exact pb_S
  have Mb : b.measures = a.measures := by rw [eb]; exact pb_M.2.2.2.2
  have Hb : b.hits = a.hits := by rw [eb]; exact pb_j 41
  have pd : b.picks d = a.picks d := by rw [eb, pb_n, if_neg hne]
  have po' : b.picks o = r.1 := by rw [eb, pb_n, if_pos rfl]
  have b12 := pck_b rJ.1 ho
  rw [po'] at b12
  refine ok_call (j_cross rJ (by omega) hd ho (by rw [Mb]; exact hm) hne) ?_
  rintro v ⟨v1, v2, vK, vJ⟩
  refine ok_grd v1 (ok_call (j_picked vJ hd k0) ?_)
  rintro u ⟨u1, u2⟩
  refine ok_grd u1 ?_
  have eu : u.2 = -1 := by rw [u2, if_neg (by rw [pd]; omega)]
  have cb := crO_m b m d o (by rw [po']; exact r2) (b.picks d).toNat
  rw [← v2, po', show ((b.picks d).toNat : Int) = k by rw [pd, ← hk]; omega] at cb
  have kr : 0 ≤ k * r.1 ∧ k * r.1 ≤ 36 := by
    have : k = 0 ∨ k = 1 ∨ k = 2 ∨ k = 3 := by omega
    rcases this with g | g | g | g <;> rw [g] <;> omega
  refine ok_call (P := fun j => j.1 = 1 ∧ J j.2 b N (B + 180) ∧ kpQ σ j.2) ?_ ?_
  · rw [if_neg (fun q => q eu), if_neg (by omega), if_neg (by omega), if_neg (by omega)]
    refine ok_grd (by unfold r32; omega) ?_
    rw [if_neg (by omega)]
    refine ok_call (j_cross vJ (by omega) ho hd (by rw [Mb]; exact hm) (fun q => hne q.symm)) ?_
    rintro w ⟨w1, w2, wK, wJ⟩
    refine ok_grd w1 ?_
    have ew : w.2.1 = v.2.1 := by rw [w2, v2]; exact (crO_t b m hd ho hne).symm
    rw [if_neg (fun q => q ew)]
    refine ok_eqb (i_facts wJ) ?_
    have h12 : 0 ≤ b.facts ∧ b.facts ≤ 50 ∧ _ := wJ.1 12
    rw [if_neg (by omega)]
    exact ok_some ⟨rfl, J_up wJ (by omega), kpQ_t rK (kpQ_t vK wK)⟩
  · rintro j ⟨j1, jJ, jK⟩
    exact ok_grd (by omega) (ok_some ⟨j1, r1, b, nA_k A (jK 129 (by omega) (by omega)) Sb Mb (by omega), jJ⟩)
end
