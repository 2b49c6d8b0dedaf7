/-! ===== the class's moves are the reference's ===== -/
theorem plc_b {a : Ab} (W : WFA a) {t : Int} (ht : thr a 0 t) (hp : isP a 0 t) : 0 ≤ a.place t ∧ a.place t < 12 := by
  obtain ⟨row, c, hc, hpl⟩ : ∃ row c, Chn a row c ∧ ∀ i : Int, 0 ≤ i → i < c → a.place (row i) = i := W 9
  have h0 : 0 < c ∧ c ≤ 12 := hc 0
  have h5 : ∀ m : Int, thr a 0 m → isP a 0 m → ∃ i : Int, 0 ≤ i ∧ i < c ∧ row i = m := hc 5
  obtain ⟨i, i0, i1, rfl⟩ := h5 t ht hp
  rw [hpl i i0 i1]; omega
theorem many_b {a : Ab} (W : WFA a) {d : Int} (hd : inD d) : 1 ≤ a.many d ∧ a.many d ≤ 12 := W 0 d hd
theorem nmv_le (a : Ab) (d : Int) (k : Nat) : ∀ j : Nat, nmv a d k ≤ nmv a d (k + j)
  | 0 => Int.le_refl _
  | j + 1 => by
    have := nmv_le a d k j
    show nmv a d k ≤ (if a.vd (k + j : Nat) = d then nmv a d (k + j) + 1 else nmv a d (k + j))
    by_cases h : a.vd (k + j : Nat) = d
    · rw [if_pos h]; omega
    · rw [if_neg h]; omega
theorem nmv_b (a : Ab) (d : Int) : ∀ k : Nat, 0 ≤ nmv a d k ∧ nmv a d k ≤ k
  | 0 => by simp [nmv]
  | k + 1 => by
    have := nmv_b a d k
    unfold nmv
    by_cases h : a.vd k = d
    · rw [if_pos h]; omega
    · rw [if_neg h]; omega
theorem nmv_s {a : Ab} {d : Int} {k : Nat} (h : a.vd k = d) : nmv a d (k + 1) = nmv a d k + 1 := by
  show (if a.vd k = d then nmv a d k + 1 else nmv a d k) = _
  rw [if_pos h]
theorem nmv_n {a : Ab} {d : Int} {k : Nat} (h : a.vd k ≠ d) : nmv a d (k + 1) = nmv a d k := by
  show (if a.vd k = d then nmv a d k + 1 else nmv a d k) = _
  rw [if_neg h]
def bPar (a : Ab) (d m u made : Int) (k : Nat) : Int := if bestV a d m u k < 0 then made else a.vp (bestV a d m u k)
def bLat (a : Ab) (d m u : Int) (k : Nat) : Int := if bestV a d m u k < 0 then -1 else a.place (a.vt (bestV a d m u k))
theorem c_parentAt_l {σ : Hp} {a : Ab} (W : WFA a) {p : Nat} {d : Int} (h13 : icd σ a p d 13) (hT : ict σ a 1) {m made pl u : Int} (hu : ∀ t : Int, thr a 0 t → isP a 0 t → (a.place t ≤ pl ↔ a.place t ≤ u)) : ∀ (j k F : Nat), (k : Int) + j = a.moves → j < F → f_MV_parentAt_9 σ (p + 1) m pl F (bPar a d m u made k) (bLat a d m u k) (nmv a d k) = some (bPar a d m u made a.moves.toNat, bLat a d m u a.moves.toNat, nmv a d a.moves.toNat) := by
  have h13' : σ (p + 1) 0 = nmv a d a.moves.toNat ∧ ∀ k : Nat, (k : Int) < a.moves → a.vd k = d → σ (p + 2) (nmv a d k) = a.vm k ∧ σ (p + 3) (nmv a d k) = a.vp k ∧ σ (p + 4) (nmv a d k) = a.vt k := h13
  have hT' : ∀ m : Int, 0 ≤ m → m < 12 → σ 94 m = @ite _ (thr a 0 m ∧ isP a 0 m) (Classical.propDecidable _) (a.place m) (-1) := hT
  have h7 : 0 ≤ a.moves ∧ a.moves ≤ 10 ∧ ∀ k : Int, 0 ≤ k → k < a.moves → (a.vd k = 1 ∨ a.vd k = 2) ∧ thr a (a.vd k) (a.vm k) ∧ isP a (a.vd k) (a.vm k) ∧ 0 ≤ a.vp k ∧ a.vp k < a.vm k ∧ isP a (a.vd k) (a.vp k) ∧ thr a 0 (a.vt k) ∧ isP a 0 (a.vt k) := W 7
  intro j
  induction j with
  | zero =>
    intro k F hk hF
    obtain ⟨F, rfl⟩ : ∃ G, F = G + 1 := ⟨F - 1, by omega⟩
    have e : a.moves.toNat = k := by omega
    rw [f_MV_parentAt_9, h13'.1, e, if_pos (Int.le_refl _)]
  | succ j ih =>
    intro k F hk hF
    have hkm : (k : Int) < a.moves := by omega
    have hb := bestV_b a d m u k
    by_cases hd : a.vd k = d
    · obtain ⟨F, rfl⟩ : ∃ G, F = G + 1 := ⟨F - 1, by omega⟩
      obtain ⟨e2, e3, e4⟩ := h13'.2 k hkm hd
      have hv := h7.2.2 k (by omega) hkm
      have ht := hv.2.2.2.2.2.2
      have hpb := plc_b W ht.1 ht.2
      have hm0 := many_b W (Or.inl rfl : inD 0)
      have hle := nmv_le a d (k + 1) j
      rw [show k + 1 + j = a.moves.toNat by omega, nmv_s hd] at hle
      have hn := nmv_b a d k
      have ep : σ 94 (a.vt k) = a.place (a.vt k) := by rw [hT' _ ht.1.1 (by have := ht.1.2; omega), if_pos ht]
      rw [f_MV_parentAt_9, h13'.1, if_neg (by omega)]
      apply ok_eq
      refine ok_grd (by omega) ?_
      rw [e4]
      refine ok_eqb (v := a.place (a.vt k)) ((e_TO_placeOf σ (a.vt k)).trans (by rw [if_pos ⟨ht.1.1, by have := ht.1.2; omega⟩, ep])) ?_
      refine ok_grd (by omega) ?_
      have hu' := hu (a.vt k) ht.1 ht.2
      have hst : ∀ x y : Int, x = bPar a d m u made (k + 1) → y = bLat a d m u (k + 1) → f_MV_parentAt_9 σ (p + 1) m pl F x y (nmv a d k + 1) = some (bPar a d m u made a.moves.toNat, bLat a d m u a.moves.toNat, nmv a d a.moves.toNat) := by
        intro x y hx hy
        rw [hx, hy, ← nmv_s hd]
        exact ih (k + 1) F (by omega) (by omega)
      have hlat : bestV a d m u k < 0 ∧ bLat a d m u k = -1 ∨ 0 ≤ bestV a d m u k ∧ bLat a d m u k = a.place (a.vt (bestV a d m u k)) := by
        unfold bLat
        by_cases h : bestV a d m u k < 0
        · rw [if_pos h]; exact Or.inl ⟨h, rfl⟩
        · rw [if_neg h]; exact Or.inr ⟨by omega, rfl⟩
      by_cases hyes : a.vd k = d ∧ a.vm k = m ∧ a.place (a.vt k) ≤ u ∧ (bestV a d m u k < 0 ∨ a.place (a.vt (bestV a d m u k)) ≤ a.place (a.vt k))
      · have eb : bestV a d m u (k + 1) = k := by show (if _ then _ else _) = _; rw [if_pos hyes]
        refine ok_call (P := fun r => r = (bPar a d m u made (k + 1), bLat a d m u (k + 1))) ?_ ?_
        · show Okk (if σ (p + 1 + 1) _ ≠ m then _ else _) _
          rw [show p + 1 + 1 = p + 2 by omega, e2, if_neg (by rw [hyes.2.1]; simp), if_neg (by omega), if_neg (by omega)]
          refine ok_grd (by omega) (ok_some ?_)
          rw [show p + 1 + 2 = p + 3 by omega, e3]
          unfold bPar bLat
          rw [eb, if_neg (by omega), if_neg (by omega)]
        · rintro r rfl
          refine ok_grd (by (first | omega | (unfold r32; omega) | (unfold r64; omega) | (simp only [r32, r64] at *; omega))) ?_
          exact eq_ok (hst _ _ rfl rfl) rfl
      · have eb : bestV a d m u (k + 1) = bestV a d m u k := by show (if _ then _ else _) = _; rw [if_neg hyes]
        refine ok_call (P := fun r => r = (bPar a d m u made (k + 1), bLat a d m u (k + 1))) ?_ ?_
        · have e5 : (bPar a d m u made (k + 1), bLat a d m u (k + 1)) = (bPar a d m u made k, bLat a d m u k) := by unfold bPar bLat; rw [eb]
          rw [e5]
          show Okk (if σ (p + 1 + 1) _ ≠ m then _ else _) _
          rw [show p + 1 + 1 = p + 2 by omega, e2]
          refine ok_ite (fun _ => ok_some rfl) (fun h1 => ok_ite (fun _ => ok_some rfl) (fun h2 => ok_ite (fun _ => ok_some rfl) (fun h3 => ?_)))
          exact absurd ⟨hd, by omega, by omega, by omega⟩ hyes
        · rintro r rfl
          refine ok_grd (by (first | omega | (unfold r32; omega) | (unfold r64; omega) | (simp only [r32, r64] at *; omega))) ?_
          exact eq_ok (hst _ _ rfl rfl) rfl
    · have eb : bestV a d m u (k + 1) = bestV a d m u k := by show (if _ then _ else _) = _; rw [if_neg (fun h => hd h.1)]
      have e5 : bPar a d m u made (k + 1) = bPar a d m u made k ∧ bLat a d m u (k + 1) = bLat a d m u k := by unfold bPar bLat; rw [eb]; exact ⟨rfl, rfl⟩
      have := ih (k + 1) F (by omega) (by omega)
      rw [e5.1, e5.2, nmv_n hd] at this
      exact this
theorem c_parentAt {σ : Hp} {a : Ab} (W : WFA a) {p : Nat} {d : Int} (h13 : icd σ a p d 13) (hT : ict σ a 1) {m made pl u : Int} (hu : ∀ t : Int, thr a 0 t → isP a 0 t → (a.place t ≤ pl ↔ a.place t ≤ u)) : f_MV_parentAt σ (p + 1) m made pl = some (bPar a d m u made a.moves.toNat) := by
  have h7 : 0 ≤ a.moves ∧ a.moves ≤ 10 ∧ _ := W 7
  have := c_parentAt_l W h13 hT (m := m) (made := made) hu a.moves.toNat 0 zFuel (by omega) (by unfold zFuel; omega)
  unfold f_MV_parentAt
  rw [show bPar a d m u made 0 = made from rfl, show bLat a d m u 0 = -1 from rfl, show nmv a d 0 = 0 from rfl] at this
  rw [this]
  rfl
theorem bPar_prn (a : Ab) (d m u : Int) : bPar a d m u (a.par (12 * d + m)) a.moves.toNat = prn a d m u := rfl
theorem prn_0 {a : Ab} (W : WFA a) (m u : Int) : prn a 0 m u = a.par m := by
  have h7 : 0 ≤ a.moves ∧ a.moves ≤ 10 ∧ ∀ k : Int, 0 ≤ k → k < a.moves → (a.vd k = 1 ∨ a.vd k = 2) ∧ thr a (a.vd k) (a.vm k) ∧ isP a (a.vd k) (a.vm k) ∧ 0 ≤ a.vp k ∧ a.vp k < a.vm k ∧ isP a (a.vd k) (a.vp k) ∧ thr a 0 (a.vt k) ∧ isP a 0 (a.vt k) := W 7
  have hb := bestV_b a 0 m u a.moves.toNat
  unfold prn
  by_cases h : bestV a 0 m u a.moves.toNat < 0
  · rw [if_pos h]; rw [show (12 : Int) * 0 + m = m by omega]
  · have h8 := (h7.2.2 (bestV a 0 m u a.moves.toNat) (by omega) (by omega)).1
    have h9 := (hb.2.2 (by omega)).1
    omega
theorem upw_prn {a : Ab} (W : WFA a) (d m u : Int) : upw a d m u = prn a d m u := by
  unfold upw
  by_cases h : d = 0
  · rw [if_pos h, h, prn_0 W]
  · rw [if_neg h]
