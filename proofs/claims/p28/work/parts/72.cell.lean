/-! ===== cell ===== -/
section
variable {σ : Hp} {a b : Ab} {n : Nat} {B : Int} {e : Nat}
def cod (t x y m : Int) : Int := 576 * t + 48 * x + 4 * y + m
theorem cod_i (W : WFA a) {t x y m t' x' y' m' : Int} (h : cin a t x y) (m0 : 0 ≤ m) (m1 : m < a.measures) (h' : cin a t' x' y') (m0' : 0 ≤ m') (m1' : m' < a.measures) : (clq t x y = clq t' x' y' ∧ m = m') ↔ cod t x y m = cod t' x' y' m' := by
  have t12 := thr12 W iD0 h.1
  have x12 := thr12 W iD1 h.2.1
  have y12 := thr12 W iD2 h.2.2
  have m4 := (mea W m0 m1).1
  have t12' := thr12 W iD0 h'.1
  have x12' := thr12 W iD1 h'.2.1
  have y12' := thr12 W iD2 h'.2.2
  have m4' := (mea W m0' m1').1
  unfold clq cod
  constructor
  · rintro ⟨q1, q2⟩; omega
  · intro q; omega
theorem e_K_find (W : WFA a) (IK : ICK σ a) {t x y m : Int} (h : cin a t x y) (m0 : 0 ≤ m) (m1 : m < a.measures) : Okk (f_K_find σ (clq t x y) m) fun r => (r = -1 ∧ ∀ k : Int, 0 ≤ k → k < a.keeps → a.kept k ≠ cod t x y m) ∨ (0 ≤ r ∧ r < a.keeps ∧ a.kept r = cod t x y m) := by
  have hh := hit_e IK
  have h14 : 0 ≤ a.keeps ∧ a.keeps ≤ 20 ∧ _ := W 14
  have rk := rowsK_of W IK
  have L : ∀ (F : Nat) (k : Int), 0 ≤ k → k ≤ a.keeps → a.keeps - k < F → (∀ j : Int, 0 ≤ j → j < k → a.kept j ≠ cod t x y m) → Okk (f_K_find_2 σ (clq t x y) m F k) fun r => (r = -1 ∧ ∀ k : Int, 0 ≤ k → k < a.keeps → a.kept k ≠ cod t x y m) ∨ (0 ≤ r ∧ r < a.keeps ∧ a.kept r = cod t x y m) := by
    intro F
    induction F with
    | zero => intro k k0 k1 hF; omega
    | succ F ih =>
      intro k k0 k1 hF hno
      rw [f_K_find_2, hh.1]
      refine ok_ite (fun g => ok_some (Or.inl ⟨rfl, fun j j0 j1 => hno j j0 (by omega)⟩)) (fun g => ok_grd (by omega) ?_)
      obtain ⟨t', x', y', m', q1, q2, q3, q4, q5, q6⟩ := rk k k0 (by omega)
      have ci := cod_i W q1 q2 q3 h m0 m1
      have nx : a.kept k ≠ cod t x y m → Okk (grd (r32 (k + 1)) <| f_K_find_2 σ (clq t x y) m F (k + 1)) fun r => (r = -1 ∧ ∀ k : Int, 0 ≤ k → k < a.keeps → a.kept k ≠ cod t x y m) ∨ (0 ≤ r ∧ r < a.keeps ∧ a.kept r = cod t x y m) := fun hn => ok_grd (by (first | omega | (unfold r32; omega) | (unfold r64; omega) | (simp only [r32, r64] at *; omega))) (ih (k + 1) (by omega) (by omega) (by omega) (fun j j0 j1 => by
        by_cases q : j = k
        · rw [q]; exact hn
        · exact hno j j0 (by omega)))
      rw [q5, q6]
      refine ok_ite (fun q => nx (fun p => q (ci.mpr (q4.symm.trans p)).1)) (fun q => ok_grd (by omega) (ok_ite (fun q' => nx (fun p => q' (ci.mpr (q4.symm.trans p)).2)) (fun q' => ok_some (Or.inr ⟨k0, by omega, q4.trans (ci.mp ⟨Classical.not_not.mp q, Classical.not_not.mp q'⟩)⟩))))
  exact L zFuel 0 (by omega) (by omega) (by unfold zFuel; omega) (fun j j0 j1 => by omega)
theorem e_K_keep {K c m v : Int} (h0 : σ 108 0 = K) (K0 : 0 ≤ K) (K1 : K ≤ 20) : Okk (f_K_keep σ c m v) fun s => (∀ q : Nat, q < 108 ∨ 111 < q → s q = σ q) ∧ s 108 1 = σ 108 1 ∧ s 108 0 = (if K < 20 then K + 1 else 20) ∧ (s 109 (if K < 20 then K else 19) = c ∧ s 110 (if K < 20 then K else 19) = m ∧ s 111 (if K < 20 then K else 19) = v) ∧ ∀ i : Int, 0 ≤ i → i < (if K < 20 then K else 19) → s 109 i = σ 109 (if K < 20 then i else i + 1) ∧ s 110 i = σ 110 (if K < 20 then i else i + 1) ∧ s 111 i = σ 111 (if K < 20 then i else i + 1) := by
  have L : K = 20 → ∀ (F : Nat) (k : Int) (s : Hp), 1 ≤ k → k ≤ 20 → 20 - k < F → (∀ q : Nat, q ≠ 109 → q ≠ 110 → q ≠ 111 → s q = σ q) → (∀ q : Nat, q = 109 ∨ q = 110 ∨ q = 111 → ∀ i : Int, 0 ≤ i → s q i = if i < k - 1 then σ q (i + 1) else σ q i) → Okk (f_K_keep_12 F k s) fun r => (∀ q : Nat, q ≠ 109 → q ≠ 110 → q ≠ 111 → r.2 q = σ q) ∧ ∀ q : Nat, q = 109 ∨ q = 110 ∨ q = 111 → ∀ i : Int, 0 ≤ i → i < 19 → r.2 q i = σ q (i + 1) := by
    intro hK F
    induction F with
    | zero => intro k s k0 k1 hF; omega
    | succ F ih =>
      intro k s k0 k1 hF E hs
      rw [f_K_keep_12]
      refine ok_ite (fun g => ok_some ⟨E, fun q hq i i0 i1 => by dsimp only; rw [hs q hq i i0, if_pos (by omega)]⟩) (fun g => ok_grd (by (first | omega | (unfold r32; omega) | (unfold r64; omega) | (simp only [r32, r64] at *; omega))) ?_)
      have e108 : s 108 0 = K := by rw [E 108 (by omega) (by omega) (by omega)]; exact h0
      refine ok_eqb (e_K_shift e108 K1 (by omega) (by omega) (by omega) (by omega)) (ok_grd (by (first | omega | (unfold r32; omega) | (unfold r64; omega) | (simp only [r32, r64] at *; omega))) (ih (k + 1) _ (by omega) (by omega) (by omega) (fun q q1 q2 q3 => by rw [hset_ne q3, hset_ne q2, hset_ne q1]; exact E q q1 q2 q3) (fun q hq i i0 => ?_)))
      have u : s q k = σ q k := by rw [hs q hq k (by omega), if_neg (by omega)]
      have step : (if i = k - 1 then s q k else s q i) = if i < k + 1 - 1 then σ q (i + 1) else σ q i := by
        by_cases z : i = k - 1
        · rw [if_pos z, if_pos (by omega), u, show i + 1 = k by omega]
        · rw [if_neg z, hs q hq i i0]
          by_cases z2 : i < k - 1
          · rw [if_pos z2, if_pos (by omega)]
          · rw [if_neg z2, if_neg (by omega)]
      rw [← step]
      rcases hq with rfl | rfl | rfl
      · rw [hset_ne (by omega), hset_ne (by omega)]; exact hs_if
      · rw [hset_ne (by omega), hs_if, hset_ne (by omega)]
      · rw [hs_if, hset_ne (by omega), hset_ne (by omega)]
  unfold f_K_keep
  rw [h0]
  refine ok_call (P := fun s => (∀ q : Nat, q < 108 ∨ 111 < q → s q = σ q) ∧ s 108 1 = σ 108 1 ∧ s 108 0 = (if K < 20 then K else 19) ∧ ∀ q : Nat, q = 109 ∨ q = 110 ∨ q = 111 → ∀ i : Int, 0 ≤ i → i < (if K < 20 then K else 19) → s q i = σ q (if K < 20 then i else i + 1)) ?_ ?_
  · by_cases hK : K < 20
    · rw [if_pos hK, if_pos hK]
      exact ok_some ⟨fun _ _ => rfl, rfl, h0, fun q hq i i0 i1 => by rw [if_pos hK]⟩
    · rw [if_neg hK, if_neg hK]
      refine ok_call (L (by omega) zFuel 1 σ (by omega) (by omega) (by unfold zFuel; omega) (fun _ _ _ _ => rfl) (fun q hq i i0 => by rw [if_neg (by omega)])) ?_
      rintro r ⟨r1, r2⟩
      refine ok_some ⟨fun q hq => ?_, ?_, hs_eq, fun q hq i i0 i1 => ?_⟩
      · rw [hset_ne (by omega)]; exact r1 q (by omega) (by omega) (by omega)
      · rw [hs_nj (by omega), r1 108 (by omega) (by omega) (by omega)]
      · rw [if_neg hK, hset_ne (by omega)]; exact r2 q hq i i0 i1
  · rintro s ⟨s1, s2, s3, s4⟩
    have kb : 0 ≤ (if K < 20 then K else 19) ∧ (if K < 20 then K else 19) < 20 := by
      by_cases hK : K < 20
      · rw [if_pos hK]; omega
      · rw [if_neg hK]; omega
    have kn : (if K < 20 then K + 1 else 20) = (if K < 20 then K else 19) + 1 := by
      by_cases hK : K < 20
      · rw [if_pos hK, if_pos hK]
      · rw [if_neg hK, if_neg hK]; omega
    rw [s3, kn]
    generalize (if K < 20 then K else 19) = p at *
    have e1 : (hset s 109 p c) 108 0 = p := by rw [hset_ne (by omega)]; exact s3
    rw [e1]
    have e2 : (hset (hset s 109 p c) 110 p m) 108 0 = p := by rw [hset_ne (by omega)]; exact e1
    rw [e2]
    have e3 : (hset (hset (hset s 109 p c) 110 p m) 111 p v) 108 0 = p := by rw [hset_ne (by omega)]; exact e2
    rw [e3]
    refine ok_grd (by omega) (ok_grd (by omega) (ok_grd (by omega) (ok_grd (by (first | omega | (unfold r32; omega) | (unfold r64; omega) | (simp only [r32, r64] at *; omega))) (ok_some ⟨fun q hq => ?_, ?_, hs_eq, ⟨?_, ?_, ?_⟩, fun i i0 i1 => ⟨?_, ?_, ?_⟩⟩))))
    · rw [hset_ne (by omega), hset_ne (by omega), hset_ne (by omega), hset_ne (by omega)]; exact s1 q hq
    · rw [hs_nj (by omega), hset_ne (by omega), hset_ne (by omega), hset_ne (by omega)]; exact s2
    · rw [hset_ne (by omega), hset_ne (by omega), hset_ne (by omega)]; exact hs_eq
    · rw [hset_ne (by omega), hset_ne (by omega)]; exact hs_eq
    · rw [hset_ne (by omega)]; exact hs_eq
    · rw [hset_ne (by omega), hset_ne (by omega), hset_ne (by omega), hs_nj (by omega)]; exact s4 109 (by omega) i i0 i1
    · rw [hset_ne (by omega), hset_ne (by omega), hs_nj (by omega), hset_ne (by omega)]; exact s4 110 (by omega) i i0 i1
    · rw [hset_ne (by omega), hs_nj (by omega), hset_ne (by omega), hset_ne (by omega)]; exact s4 111 (by omega) i i0 i1
/-- a cell more is kept -/
noncomputable def kpA (a : Ab) (c : Int) : Ab := if a.keeps < 20 then stA a (fun j => if j = a.keeps then c else a.kept j) (a.keeps + 1) else stA a (rmS (fun j => if j = 20 then c else a.kept j) 0 21) 20
theorem kp_V {c : Int} : sval a (kpA a c) ∧ smem a (kpA a c) ∧ spk a (kpA a c) ∧ smea a (kpA a c) ∧ sfac a (kpA a c) ∧ swd a (kpA a c) ∧ (kpA a c).hits = a.hits ∧ ((kpA a c).asNow = a.asNow ∧ (kpA a c).leave = a.leave) := by
  unfold kpA
  by_cases h : a.keeps < 20
  · rw [if_pos h]; exact ⟨sA_V, sA_S, sA_P, sA_M, sA_F, sA_D, sA_h.2, sA_h.1⟩
  · rw [if_neg h]; exact ⟨sA_V, sA_S, sA_P, sA_M, sA_F, sA_D, sA_h.2, sA_h.1⟩
theorem kp_k (W : WFA a) {c : Int} : (kpA a c).keeps = (if a.keeps < 20 then a.keeps + 1 else 20) ∧ ∀ k : Int, 0 ≤ k → k < (if a.keeps < 20 then a.keeps + 1 else 20) → (kpA a c).kept k = if k < (if a.keeps < 20 then a.keeps else 19) then a.kept (if a.keeps < 20 then k else k + 1) else c := by
  have h14 : 0 ≤ a.keeps ∧ a.keeps ≤ 20 ∧ _ := W 14
  unfold kpA
  by_cases h : a.keeps < 20
  · rw [if_pos h, if_pos h, if_pos h, sA_k, sA_g]
    refine ⟨rfl, fun k k0 k1 => ?_⟩
    by_cases z : k = a.keeps
    · rw [if_pos z, if_neg (show ¬ k < a.keeps by omega)]
    · rw [if_neg z, if_pos (show k < a.keeps by omega), if_pos h]
  · rw [if_neg h, if_neg h, if_neg h, sA_k, sA_g]
    refine ⟨rfl, fun k k0 k1 => ?_⟩
    unfold rmS
    rw [if_pos (by omega)]
    show (if k + 1 = 20 then c else a.kept (k + 1)) = _
    by_cases z : k < 19
    · rw [if_neg (show ¬ k + 1 = 20 by omega), if_pos z, if_neg h]
    · rw [if_pos (show k + 1 = 20 by omega), if_neg z]
theorem kp_W (W : WFA a) {c : Int} (hc : wk a c) : WFA (kpA a c) := by
  have h14 : 0 ≤ a.keeps ∧ a.keeps ≤ 20 ∧ _ := W 14
  have hk := kp_k W (c := c)
  have key : ∀ k : Int, 0 ≤ k → k < (if a.keeps < 20 then a.keeps + 1 else 20) → wk a ((kpA a c).kept k) := by
    intro k k0 k1
    rw [hk.2 k k0 k1]
    by_cases h : a.keeps < 20
    · rw [if_pos h] at k1 ⊢
      by_cases z : k < a.keeps
      · rw [if_pos z, if_pos h]; exact wk_k W k0 z
      · rw [if_neg z]; exact hc
    · rw [if_neg h] at k1 ⊢
      by_cases z : k < 19
      · rw [if_pos z, if_neg h]; exact wk_k W (by omega) (by omega)
      · rw [if_neg z]; exact hc
  by_cases h : a.keeps < 20
  · have e : kpA a c = stA a (fun j => if j = a.keeps then c else a.kept j) (a.keeps + 1) := if_pos h
    rw [e] at key ⊢
    rw [sA_g] at key
    exact sA_W W (by omega) (by omega) (fun j j0 j1 => key j j0 (by rw [if_pos h]; exact j1))
  · have e : kpA a c = stA a (rmS (fun j => if j = 20 then c else a.kept j) 0 21) 20 := if_neg h
    rw [e] at key ⊢
    rw [sA_g] at key
    exact sA_W W (by omega) (by omega) (fun j j0 j1 => key j j0 (by rw [if_neg h]; exact j1))
/-- the state after a hit -/
def htA (a : Ab) : Ab := hset a 129 41 (a.hits + 1)
theorem ht_q {q : Nat} (h : q ≠ 129) : htA a q = a q := hset_ne h
theorem ht_j {j : Int} (h : j ≠ 41) : htA a 129 j = a 129 j := hs_nj h
theorem ht_V : sval a (htA a) := ⟨⟨fun q hq => ht_q (by omega), ht_j (by omega)⟩, ⟨ht_q (by omega), ht_q (by omega), ht_q (by omega), ht_q (by omega), ht_j (by omega)⟩, ⟨ht_j (by omega), ht_j (by omega)⟩, fun q h1 h2 => ht_q (by omega), ht_j (by omega), fun i _ => ⟨by unfold Ab.what; rw [ht_q (by omega)], by unfold Ab.one; rw [ht_q (by omega)], by unfold Ab.two; rw [ht_q (by omega)]⟩, fun s _ => by unfold Ab.len; rw [ht_q (by omega)]⟩
end
