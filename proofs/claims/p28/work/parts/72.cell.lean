/-! ===== cell ===== -/
section
variable {σ : Hp} {a b : Ab} {n : Nat} {B : Int} {e : Nat}
def cod (t x y m : Int) : Int := 576 * t + 48 * x + 4 * y + m
theorem cod_i (W : WFA a) {t x y m t' x' y' m' : Int} (h : cin a t x y) (m0 : 0 ≤ m) (m1 : m < a.measures) (h' : cin a t' x' y') (m0' : 0 ≤ m') (m1' : m' < a.measures) : (clq t x y = clq t' x' y' ∧ m = m') ↔ cod t x y m = cod t' x' y' m' := by
  have t12 := thr12 W iD0 h.1
  have x12 := thr12 W iD1 h.2.1
  have y12 := thr12 W iD2 h.2.2
  have m4 := (mea W m0 m1).1
  have t12' := thr12 W iD0 h'.1
  have x12' := thr12 W iD1 h'.2.1
  have y12' := thr12 W iD2 h'.2.2
  have m4' := (mea W m0' m1').1
  unfold clq cod
  constructor
  · rintro ⟨q1, q2⟩; omega
  · intro q; omega
theorem e_K_find (W : WFA a) (IK : ICK σ a) {t x y m : Int} (h : cin a t x y) (m0 : 0 ≤ m) (m1 : m < a.measures) : Okk (f_K_find σ (clq t x y) m) fun r => (r = -1 ∧ ∀ k : Int, 0 ≤ k → k < a.keeps → a.kept k ≠ cod t x y m) ∨ (0 ≤ r ∧ r < a.keeps ∧ a.kept r = cod t x y m) := by
  have hh := hit_e IK
  have h14 : 0 ≤ a.keeps ∧ a.keeps ≤ 20 ∧ _ := W 14
  have rk := rowsK_of W IK
  have L : ∀ (F : Nat) (k : Int), 0 ≤ k → k ≤ a.keeps → a.keeps - k < F → (∀ j : Int, 0 ≤ j → j < k → a.kept j ≠ cod t x y m) → Okk (f_K_find_2 σ (clq t x y) m F k) fun r => (r = -1 ∧ ∀ k : Int, 0 ≤ k → k < a.keeps → a.kept k ≠ cod t x y m) ∨ (0 ≤ r ∧ r < a.keeps ∧ a.kept r = cod t x y m) := by
    intro F
    induction F with
    | zero => intro k k0 k1 hF; omega
    | succ F ih =>
      intro k k0 k1 hF hno
      rw [f_K_find_2, hh.1]
      refine ok_ite (fun g => ok_some (Or.inl ⟨rfl, fun j j0 j1 => hno j j0 (by omega)⟩)) (fun g => ok_grd (by omega) ?_)
      obtain ⟨t', x', y', m', q1, q2, q3, q4, q5, q6⟩ := rk k k0 (by omega)
      have ci := cod_i W q1 q2 q3 h m0 m1
      have nx : a.kept k ≠ cod t x y m → Okk (grd (r32 (k + 1)) <| f_K_find_2 σ (clq t x y) m F (k + 1)) fun r => (r = -1 ∧ ∀ k : Int, 0 ≤ k → k < a.keeps → a.kept k ≠ cod t x y m) ∨ (0 ≤ r ∧ r < a.keeps ∧ a.kept r = cod t x y m) := fun hn => ok_grd (by (first | omega | (unfold r32; omega) | (unfold r64; omega) | (simp only [r32, r64] at *; omega))) (ih (k + 1) (by omega) (by omega) (by omega) (fun j j0 j1 => by
        by_cases q : j = k
        · rw [q]; exact hn
        · exact hno j j0 (by omega)))
      rw [q5, q6]
      refine ok_ite (fun q => nx (fun p => q (ci.mpr (q4.symm.trans p)).1)) (fun q => ok_grd (by omega) (ok_ite (fun q' => nx (fun p => q' (ci.mpr (q4.symm.trans p)).2)) (fun q' => ok_some (Or.inr ⟨k0, by omega, q4.trans (ci.mp ⟨Classical.not_not.mp q, Classical.not_not.mp q'⟩)⟩))))
  exact L zFuel 0 (by omega) (by omega) (by unfold zFuel; omega) (fun j j0 j1 => by omega)
theorem e_K_keep {K c m v : Int} (h0 : σ 108 0 = K) (K0 : 0 ≤ K) (K1 : K ≤ 20) : Okk (f_K_keep σ c m v) fun s => (∀ q : Nat, q < 108 ∨ 111 < q → s q = σ q) ∧ s 108 1 = σ 108 1 ∧ s 108 0 = (if K < 20 then K + 1 else 20) ∧ (s 109 (if K < 20 then K else 19) = c ∧ s 110 (if K < 20 then K else 19) = m ∧ s 111 (if K < 20 then K else 19) = v) ∧ ∀ i : Int, 0 ≤ i → i < (if K < 20 then K else 19) → s 109 i = σ 109 (if K < 20 then i else i + 1) ∧ s 110 i = σ 110 (if K < 20 then i else i + 1) ∧ s 111 i = σ 111 (if K < 20 then i else i + 1) := by
  have L : K = 20 → ∀ (F : Nat) (k : Int) (s : Hp), 1 ≤ k → k ≤ 20 → 20 - k < F → (∀ q : Nat, q ≠ 109 → q ≠ 110 → q ≠ 111 → s q = σ q) → (∀ q : Nat, q = 109 ∨ q = 110 ∨ q = 111 → ∀ i : Int, 0 ≤ i → s q i = if i < k - 1 then σ q (i + 1) else σ q i) → Okk (f_K_keep_12 F k s) fun r => (∀ q : Nat, q ≠ 109 → q ≠ 110 → q ≠ 111 → r.2 q = σ q) ∧ ∀ q : Nat, q = 109 ∨ q = 110 ∨ q = 111 → ∀ i : Int, 0 ≤ i → i < 19 → r.2 q i = σ q (i + 1) := by
    intro hK F
    induction F with
    | zero => intro k s k0 k1 hF; omega
    | succ F ih =>
      intro k s k0 k1 hF E hs
      rw [f_K_keep_12]
      refine ok_ite (fun g => ok_some ⟨E, fun q hq i i0 i1 => by dsimp only; rw [hs q hq i i0, if_pos (by omega)]⟩) (fun g => ok_grd (by (first | omega | (unfold r32; omega) | (unfold r64; omega) | (simp only [r32, r64] at *; omega))) ?_)
      have e108 : s 108 0 = K := by rw [E 108 (by omega) (by omega) (by omega)]; exact h0
      refine ok_eqb (e_K_shift e108 K1 (by omega) (by omega) (by omega) (by omega)) (ok_grd (by (first | omega | (unfold r32; omega) | (unfold r64; omega) | (simp only [r32, r64] at *; omega))) (ih (k + 1) _ (by omega) (by omega) (by omega) (fun q q1 q2 q3 => by rw [hset_ne q3, hset_ne q2, hset_ne q1]; exact E q q1 q2 q3) (fun q hq i i0 => ?_)))
      have u : s q k = σ q k := by rw [hs q hq k (by omega), if_neg (by omega)]
      have step : (if i = k - 1 then s q k else s q i) = if i < k + 1 - 1 then σ q (i + 1) else σ q i := by
        by_cases z : i = k - 1
        · rw [if_pos z, if_pos (by omega), u, show i + 1 = k by omega]
        · rw [if_neg z, hs q hq i i0]
          by_cases z2 : i < k - 1
          · rw [if_pos z2, if_pos (by omega)]
          · rw [if_neg z2, if_neg (by omega)]
      rw [← step]
      rcases hq with rfl | rfl | rfl
      · rw [hset_ne (by omega), hset_ne (by omega)]; exact hs_if
      · rw [hset_ne (by omega), hs_if, hset_ne (by omega)]
      · rw [hs_if, hset_ne (by omega), hset_ne (by omega)]
  unfold f_K_keep
  rw [h0]
  refine ok_call (P := fun s => (∀ q : Nat, q < 108 ∨ 111 < q → s q = σ q) ∧ s 108 1 = σ 108 1 ∧ s 108 0 = (if K < 20 then K else 19) ∧ ∀ q : Nat, q = 109 ∨ q = 110 ∨ q = 111 → ∀ i : Int, 0 ≤ i → i < (if K < 20 then K else 19) → s q i = σ q (if K < 20 then i else i + 1)) ?_ ?_
  · by_cases hK : K < 20
    · rw [if_pos hK, if_pos hK]
      exact ok_some ⟨fun _ _ => rfl, rfl, h0, fun q hq i i0 i1 => by rw [if_pos hK]⟩
    · rw [if_neg hK, if_neg hK]
      refine ok_call (L (by omega) zFuel 1 σ (by omega) (by omega) (by unfold zFuel; omega) (fun _ _ _ _ => rfl) (fun q hq i i0 => by rw [if_neg (by omega)])) ?_
      rintro r ⟨r1, r2⟩
      refine ok_some ⟨fun q hq => ?_, ?_, hs_eq, fun q hq i i0 i1 => ?_⟩
      · rw [hset_ne (by omega)]; exact r1 q (by omega) (by omega) (by omega)
      · rw [hs_nj (by omega), r1 108 (by omega) (by omega) (by omega)]
      · rw [if_neg hK, hset_ne (by omega)]; exact r2 q hq i i0 i1
  · rintro s ⟨s1, s2, s3, s4⟩
    have kb : 0 ≤ (if K < 20 then K else 19) ∧ (if K < 20 then K else 19) < 20 := by
      by_cases hK : K < 20
      · rw [if_pos hK]; omega
      · rw [if_neg hK]; omega
    have kn : (if K < 20 then K + 1 else 20) = (if K < 20 then K else 19) + 1 := by
      by_cases hK : K < 20
      · rw [if_pos hK, if_pos hK]
      · rw [if_neg hK, if_neg hK]; omega
    rw [s3, kn]
    generalize (if K < 20 then K else 19) = p at *
    have e1 : (hset s 109 p c) 108 0 = p := by rw [hset_ne (by omega)]; exact s3
    rw [e1]
    have e2 : (hset (hset s 109 p c) 110 p m) 108 0 = p := by rw [hset_ne (by omega)]; exact e1
    rw [e2]
    have e3 : (hset (hset (hset s 109 p c) 110 p m) 111 p v) 108 0 = p := by rw [hset_ne (by omega)]; exact e2
    rw [e3]
    refine ok_grd (by omega) (ok_grd (by omega) (ok_grd (by omega) (ok_grd (by (first | omega | (unfold r32; omega) | (unfold r64; omega) | (simp only [r32, r64] at *; omega))) (ok_some ⟨fun q hq => ?_, ?_, hs_eq, ⟨?_, ?_, ?_⟩, fun i i0 i1 => ⟨?_, ?_, ?_⟩⟩))))
    · rw [hset_ne (by omega), hset_ne (by omega), hset_ne (by omega), hset_ne (by omega)]; exact s1 q hq
    · rw [hs_nj (by omega), hset_ne (by omega), hset_ne (by omega), hset_ne (by omega)]; exact s2
    · rw [hset_ne (by omega), hset_ne (by omega), hset_ne (by omega)]; exact hs_eq
    · rw [hset_ne (by omega), hset_ne (by omega)]; exact hs_eq
    · rw [hset_ne (by omega)]; exact hs_eq
    · rw [hset_ne (by omega), hset_ne (by omega), hset_ne (by omega), hs_nj (by omega)]; exact s4 109 (by omega) i i0 i1
    · rw [hset_ne (by omega), hset_ne (by omega), hs_nj (by omega), hset_ne (by omega)]; exact s4 110 (by omega) i i0 i1
    · rw [hset_ne (by omega), hs_nj (by omega), hset_ne (by omega), hset_ne (by omega)]; exact s4 111 (by omega) i i0 i1
/-- a cell more is kept -/
noncomputable def kpA (a : Ab) (c : Int) : Ab := if a.keeps < 20 then stA a (fun j => if j = a.keeps then c else a.kept j) (a.keeps + 1) else stA a (rmSq (fun j => if j = 20 then c else a.kept j) 0 21) 20
theorem kp_V {c : Int} : sval a (kpA a c) ∧ smem a (kpA a c) ∧ spk a (kpA a c) ∧ smea a (kpA a c) ∧ sfac a (kpA a c) ∧ swd a (kpA a c) ∧ (kpA a c).hits = a.hits ∧ ((kpA a c).asNow = a.asNow ∧ (kpA a c).leave = a.leave) := by
  unfold kpA
  by_cases h : a.keeps < 20
  · rw [if_pos h]; exact ⟨sA_V, sA_S, sA_P, sA_M, sA_F, sA_D, sA_h.2, sA_h.1⟩
  · rw [if_neg h]; exact ⟨sA_V, sA_S, sA_P, sA_M, sA_F, sA_D, sA_h.2, sA_h.1⟩
theorem kp_k (W : WFA a) {c : Int} : (kpA a c).keeps = (if a.keeps < 20 then a.keeps + 1 else 20) ∧ ∀ k : Int, 0 ≤ k → k < (if a.keeps < 20 then a.keeps + 1 else 20) → (kpA a c).kept k = if k < (if a.keeps < 20 then a.keeps else 19) then a.kept (if a.keeps < 20 then k else k + 1) else c := by
  have h14 : 0 ≤ a.keeps ∧ a.keeps ≤ 20 ∧ _ := W 14
  unfold kpA
  by_cases h : a.keeps < 20
  · rw [if_pos h, if_pos h, if_pos h, sA_k, sA_g]
    refine ⟨rfl, fun k k0 k1 => ?_⟩
    by_cases z : k = a.keeps
    · rw [if_pos z, if_neg (show ¬ k < a.keeps by omega)]
    · rw [if_neg z, if_pos (show k < a.keeps by omega), if_pos h]
  · rw [if_neg h, if_neg h, if_neg h, sA_k, sA_g]
    refine ⟨rfl, fun k k0 k1 => ?_⟩
    unfold rmSq
    rw [if_pos (by omega)]
    show (if k + 1 = 20 then c else a.kept (k + 1)) = _
    by_cases z : k < 19
    · rw [if_neg (show ¬ k + 1 = 20 by omega), if_pos z, if_neg h]
    · rw [if_pos (show k + 1 = 20 by omega), if_neg z]
theorem kp_W (W : WFA a) {c : Int} (hc : wk a c) : WFA (kpA a c) := by
  have h14 : 0 ≤ a.keeps ∧ a.keeps ≤ 20 ∧ _ := W 14
  have hk := kp_k W (c := c)
  have key : ∀ k : Int, 0 ≤ k → k < (if a.keeps < 20 then a.keeps + 1 else 20) → wk a ((kpA a c).kept k) := by
    intro k k0 k1
    rw [hk.2 k k0 k1]
    by_cases h : a.keeps < 20
    · rw [if_pos h] at k1 ⊢
      by_cases z : k < a.keeps
      · rw [if_pos z, if_pos h]; exact wk_k W k0 z
      · rw [if_neg z]; exact hc
    · rw [if_neg h] at k1 ⊢
      by_cases z : k < 19
      · rw [if_pos z, if_neg h]; exact wk_k W (by omega) (by omega)
      · rw [if_neg z]; exact hc
  by_cases h : a.keeps < 20
  · have e : kpA a c = stA a (fun j => if j = a.keeps then c else a.kept j) (a.keeps + 1) := if_pos h
    rw [e] at key ⊢
    rw [sA_g] at key
    exact sA_W W (by omega) (by omega) (fun j j0 j1 => key j j0 (by rw [if_pos h]; exact j1))
  · have e : kpA a c = stA a (rmSq (fun j => if j = 20 then c else a.kept j) 0 21) 20 := if_neg h
    rw [e] at key ⊢
    rw [sA_g] at key
    exact sA_W W (by omega) (by omega) (fun j j0 j1 => key j j0 (by rw [if_neg h]; exact j1))
/-- the state after a hit -/
def htA (a : Ab) : Ab := hset a 129 41 (a.hits + 1)
theorem ht_q {q : Nat} (h : q ≠ 129) : htA a q = a q := hset_ne h
theorem ht_j {j : Int} (h : j ≠ 41) : htA a 129 j = a 129 j := hs_nj h
theorem ht_V : sval a (htA a) := ⟨⟨fun q hq => ht_q (by omega), ht_j (by omega)⟩, ⟨ht_q (by omega), ht_q (by omega), ht_q (by omega), ht_q (by omega), ht_j (by omega)⟩, ⟨ht_j (by omega), ht_j (by omega)⟩, fun q h1 h2 => ht_q (by omega), ht_j (by omega), fun i _ => ⟨by unfold Ab.what; rw [ht_q (by omega)], by unfold Ab.one; rw [ht_q (by omega)], by unfold Ab.two; rw [ht_q (by omega)]⟩, fun s _ => by unfold Ab.len; rw [ht_q (by omega)]⟩
theorem op_cell (H : J σ a n B) (hB : B ≤ 100000) (t x y m : Int) : OPT σ a n B e (fun code v b => TT a (mem4 a t x y m) (fun v b => ((seeP a 0 t ∧ seeP a 1 x ∧ seeP a 2 y) ∧ v = val a m t x y ∧ (((∃ k : Int, 0 ≤ k ∧ k < a.keeps ∧ a.kept k = cod t x y m) ∧ b = htA a) ∨ ((¬ ∃ k : Int, 0 ≤ k ∧ k < a.keeps ∧ a.kept k = cod t x y m) ∧ b = kpA a (cod t x y m)))) ∨ (¬ (seeP a 0 t ∧ seeP a 1 x ∧ seeP a 2 y) ∧ v = zNO ∧ b = a)) code v b) (f_L_cell σ e t x y m) := by
  obtain ⟨W, K, V, I, VV, h1, h2⟩ := id H
  obtain ⟨R, IK, IW, I9⟩ := IC_r I
  have hh := hit_e IK
  have h14 : 0 ≤ a.keeps ∧ a.keeps ≤ 20 ∧ _ := W 14
  by_cases h : mem4 a t x y m
  · have hc : cin a t x y := ⟨h.1, h.2.1, h.2.2.1⟩
    have t12 := thr12 W iD0 hc.1
    have x12 := thr12 W iD1 hc.2.1
    have y12 := thr12 W iD2 hc.2.2
    have m0 := h.2.2.2.1
    have m1 := h.2.2.2.2
    have m4 := (mea W m0 m1).1
    by_cases hs : seeP a 0 t ∧ seeP a 1 x ∧ seeP a 2 y
    · -- what the reference's loop comes to
      by_cases hx : ∃ k : Int, 0 ≤ k ∧ k < a.keeps ∧ a.kept k = cod t x y m
      · have S := ht_V (a := a)
        have F : sfac a (htA a) := ⟨fun q _ _ => ht_q (by omega), ht_j (by omega), ht_j (by omega)⟩
        have P : spk a (htA a) := ⟨ht_q (by omega), ht_q (by omega), ht_q (by omega)⟩
        have D : swd a (htA a) := ⟨ht_q (by omega), ht_q (by omega), ht_q (by omega), ht_q (by omega)⟩
        have hk : (htA a).keeps = a.keeps := ht_j (by omega)
        have hq : (htA a).hits = a.hits + 1 := by unfold Ab.hits htA; exact hs_eq
        have h162 : htA a 162 = a 162 := ht_q (by omega)
        have W' : WFA (htA a) := WFA_by W S.1 (wfa_8 W S.2.2.1.1 S.2.2.1.2) S.2.1 F (wfa_k W S.1 S.2.1.2.2.2.2 h162 hk) (wfa_p W S.1 P) (by unfold Ab.len; rw [ht_q (by omega)])
        have K' := WFW_s K D S.1
        refine ⟨0, val a m t x y, htA a, ⟨W', K', by rw [hq]; omega, by rw [hq]; omega⟩, (TT_0 (Or.inl ⟨hs, rfl, Or.inl ⟨hx, rfl⟩⟩)), ?_⟩
        · unfold f_L_cell
          refine L_ok W' ?_
          unfold f_C_cell
          refine ok_eqb (nC_y' W R h) ?_
          rw [if_pos rfl]
          refine ok_eqb (r_S_isSeen W R hc) ?_
          rw [bI_t hs, if_pos (by omega)]
          refine ok_call (e_K_find W IK hc m0 m1) (fun r hr => ?_)
          have hr' : 0 ≤ r ∧ r < a.keeps ∧ a.kept r = cod t x y m := by
            rcases hr with hr | hr
            · obtain ⟨k, k0, k1, k2⟩ := hx
              exact absurd k2 (hr.2 k k0 k1)
            · exact hr
          rw [if_neg (by omega), hh.2]
          have g := (show ∀ k : Int, 0 ≤ k → k < a.keeps → ∀ t x y m : Int, thr a 0 t → thr a 1 x → thr a 2 y → 0 ≤ m → m < a.measures → a.kept k = 576 * t + 48 * x + 4 * y + m → σ 109 k = 144 * t + 12 * x + y ∧ σ 110 k = m ∧ σ 111 k = val a m t x y from IK 1) r hr'.1 hr'.2.1 t x y m hc.1 hc.2.1 hc.2.2 m0 m1 hr'.2.2
          have ev : f_K_valueAt (hset σ 108 1 (a.hits + 1)) r = some (val a m t x y) := by
            rw [e_K_valueAt, hs_nj (by omega), hh.1, hset_ne (by omega), if_pos ⟨hr'.1, hr'.2.1, by omega⟩, g.2.2]
          refine ok_grd (by (first | omega | (unfold r32; omega) | (unfold r64; omega) | (simp only [r32, r64] at *; omega))) (ok_eqb ev (ok_some ⟨rfl, rfl, fun q q1 q2 => hset_ne (by omega), ?_⟩))
          dsimp only
          have E : ∀ q : Nat, q ≠ 108 → hset σ 108 1 (a.hits + 1) q = σ q := fun q hq => hset_ne hq
          refine IC_mk (ICR_by W S.1 P ⟨?_, ?_⟩ S.2.1 F (ICR_f W (fun q hq => E q (by omega)) R)) (fun k => ?_) (ICW_s D S.1 (ICW_f (fun q hq => E q (by omega)) IW)) ?_
          · rw [E 1 (by omega), S.2.2.1.1]; exact R.2.2.2.2.1.1
          · rw [E 1 (by omega), S.2.2.1.2]; exact R.2.2.2.2.1.2
          · match k with
            | 0 => exact (⟨by rw [hs_nj (by omega), hk, hh.1], by rw [hs_eq, hq]⟩ : hset σ 108 1 (a.hits + 1) 108 0 = (htA a).keeps ∧ hset σ 108 1 (a.hits + 1) 108 1 = (htA a).hits)
            | 1 =>
              have h130 : (htA a).many = a.many := S.1.1 130 (by omega)
              have hkp : (htA a).kept = a.kept := h162
              intro k k0 k1 t' x' y' m' ht hx hy q0 q1 ek
              simp only [thr, h130] at ht hx hy
              rw [S.2.1.2.2.2.2] at q1
              rw [hk] at k1
              rw [hkp] at ek
              rw [E 109 (by omega), E 110 (by omega), E 111 (by omega), val_cc W K S ⟨ht, hx, hy⟩]
              exact (show ∀ k : Int, 0 ≤ k → k < a.keeps → ∀ t x y m : Int, thr a 0 t → thr a 1 x → thr a 2 y → 0 ≤ m → m < a.measures → a.kept k = 576 * t + 48 * x + 4 * y + m → σ 109 k = 144 * t + 12 * x + y ∧ σ 110 k = m ∧ σ 111 k = val a m t x y from IK 1) k k0 k1 t' x' y' m' ht hx hy q0 q1 ek
            | _ + 2 => trivial
          · unfold ic9 at I9 ⊢; rw [E 116 (by omega), E 117 (by omega)]; exact ⟨I9.1, by omega, I9.2.2⟩
      · have hno : ∀ k : Int, 0 ≤ k → k < a.keeps → a.kept k ≠ cod t x y m := fun k k0 k1 q => hx ⟨k, k0, k1, q⟩
        obtain ⟨S, Sm, P, M, F, D, a3, a4⟩ := kp_V (a := a) (c := cod t x y m)
        have W' : WFA (kpA a (cod t x y m)) := kp_W W ⟨t, x, y, m, hc, m0, m1, rfl⟩
        have K' := WFW_s K D Sm
        have hk := kp_k W (c := cod t x y m)
        refine ⟨0, val a m t x y, kpA a (cod t x y m), ⟨W', K', by rw [a3]; exact h1, by rw [a3]; omega⟩, (TT_0 (Or.inl ⟨hs, rfl, Or.inr ⟨hx, rfl⟩⟩)), ?_⟩
        · unfold f_L_cell
          refine L_ok W' ?_
          unfold f_C_cell
          refine ok_eqb (nC_y' W R h) ?_
          rw [if_pos rfl]
          refine ok_eqb (r_S_isSeen W R hc) ?_
          rw [bI_t hs, if_pos (by omega)]
          refine ok_call (e_K_find W IK hc m0 m1) (fun r hr => ?_)
          have hr' : r = -1 := by
            rcases hr with hr | hr
            · exact hr.1
            · exact absurd ⟨r, hr⟩ hx
          rw [if_pos hr']
          refine ok_call (c_begins W R (ICW_fok IW) I9 (by omega) m) ?_
          rintro s ⟨s1, s2, s3⟩
          refine ok_call (c_asAsked W K m0 m1 s1 hc) ?_
          rintro q ⟨q1, q2, q3⟩
          rw [if_pos hs] at q1
          rw [q1]
          have E : ∀ p : Nat, (p < 116 ∨ 124 ≤ p) → q.2 p = σ p := fun p hp => by rw [q3.1 p hp, s2 p (by omega)]
          refine ok_call (e_K_keep (c := clq t x y) (m := m) (v := val a m t x y) (σ := q.2) (K := a.keeps) (by rw [E 108 (by omega), hh.1]) h14.1 h14.2.1) ?_
          rintro u ⟨u1, u2, u3, u4, u5⟩
          refine ok_some ⟨rfl, rfl, fun p p1 p2 => by dsimp only; rw [u1 p (by omega), E p (by omega)], ?_⟩
          dsimp only
          have e4 : u 116 4 = σ 116 4 + 1 := by rw [u1 116 (by omega), q3.2.1 4 (by omega), s3]
          refine IC_mk (ICR_by W Sm P ⟨?_, ?_⟩ M F (ICR_f W (fun p hp => u1 p (by omega)) q2.1)) (fun k => ?_) (ICW_s D Sm (ICW_f (fun p hp => by rw [u1 p (by omega), E p (by omega)]) IW)) ⟨by rw [e4]; have := I9.1; omega, by rw [e4]; have := I9.2.1; omega, by rw [u1 116 (by omega), u1 117 (by omega)]; exact q2.2.2.2.1⟩
          · rw [u1 1 (by omega), a4.1]; exact q2.1.2.2.2.2.1.1
          · rw [u1 1 (by omega), a4.2]; exact q2.1.2.2.2.2.1.2
          · match k with
            | 0 => exact (⟨by rw [u3, hk.1], by rw [u2, E 108 (by omega), hh.2, a3]⟩ : u 108 0 = (kpA a (cod t x y m)).keeps ∧ u 108 1 = (kpA a (cod t x y m)).hits)
            | 1 =>
              have h130 : (kpA a (cod t x y m)).many = a.many := Sm.1 130 (by omega)
              intro k k0 k1 t' x' y' m' ht hx' hy p0 p1 ek
              simp only [thr, h130] at ht hx' hy
              rw [M.2.2.2.2] at p1
              rw [hk.1] at k1
              rw [hk.2 k k0 k1] at ek
              rw [val_cc W K S ⟨ht, hx', hy⟩]
              by_cases z : k < (if a.keeps < 20 then a.keeps else 19)
              · rw [if_pos z] at ek
                have u5' := u5 k k0 z
                rw [u5'.1, u5'.2.1, u5'.2.2, E 109 (by omega), E 110 (by omega), E 111 (by omega)]
                have hb : 0 ≤ (if a.keeps < 20 then k else k + 1) ∧ (if a.keeps < 20 then k else k + 1) < a.keeps := by
                  by_cases g : a.keeps < 20
                  · rw [if_pos g] at z ⊢; omega
                  · rw [if_neg g] at z ⊢; omega
                exact (show ∀ k : Int, 0 ≤ k → k < a.keeps → ∀ t x y m : Int, thr a 0 t → thr a 1 x → thr a 2 y → 0 ≤ m → m < a.measures → a.kept k = 576 * t + 48 * x + 4 * y + m → σ 109 k = 144 * t + 12 * x + y ∧ σ 110 k = m ∧ σ 111 k = val a m t x y from IK 1) _ hb.1 hb.2 t' x' y' m' ht hx' hy p0 p1 ek
              · rw [if_neg z] at ek
                have kz : k = (if a.keeps < 20 then a.keeps else 19) := by
                  by_cases g : a.keeps < 20
                  · rw [if_pos g] at z k1 ⊢; omega
                  · rw [if_neg g] at z k1 ⊢; omega
                have ci := (cod_i W hc m0 m1 ⟨ht, hx', hy⟩ p0 p1).mpr ek
                have hi := clq_i W hc ⟨ht, hx', hy⟩ ci.1
                rw [kz, u4.1, u4.2.1, u4.2.2, ← hi.1, ← hi.2.1, ← hi.2.2, ← ci.2]
                exact ⟨rfl, rfl, rfl⟩
            | _ + 2 => trivial
    · refine opt_er H 0 zNO (TT_0 (Or.inr ⟨hs, rfl, rfl⟩)) ?_
      · unfold f_L_cell
        refine L_ok W ?_
        unfold f_C_cell
        refine ok_eqb (nC_y' W R h) ?_
        rw [if_pos rfl]
        refine ok_eqb (r_S_isSeen W R hc) ?_
        rw [bI_f hs, if_neg (by omega)]
        exact ok_some ⟨rfl, rfl, fun _ _ _ => rfl, IC_m W (fun _ _ => rfl) (by omega) I⟩
  · refine opt_er H 1 0 (TT_e ⟨by omega, by omega⟩ (h)) ?_
    · unfold f_L_cell
      refine ok_eqb (v := (1, 0, σ)) ?_ ?_
      · unfold f_C_cell; apply ok_eq
        refine ok_eqb (nC_n' W R h) ?_
        rw [if_neg (by simp)]
        exact ok_grd (by simp) (ok_some rfl)
      · (rw [if_neg (by simp), if_pos rfl]; exact ok_some (LR_er W I (by omega) _ _ (by omega)))
end
