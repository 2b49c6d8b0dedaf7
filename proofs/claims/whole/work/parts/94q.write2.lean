section
variable {σ : Hp} {a a' b : Ab} {n : Nat} {B : Int} {e : Nat} {t x y m : Int}
/-- the reference finds them -/
theorem m_spots (W : WFA a) (hc : cin a t x y) {σ' : Hp} (V1 : Vw σ' a) : Okk (f_M_spots σ' t x y m) fun r => r.1 = (if bI (wOne a m t x y) = 0 then -1 else (wN a m t x y : Int)) ∧ (∀ q : Nat, q ≠ 167 → r.2 q = σ' q) ∧ ∀ i : Int, 0 ≤ i → i < wN a m t x y → r.2 167 i = wS a m t x y i := by
  have h12 : 0 ≤ a.facts ∧ a.facts ≤ 50 ∧ _ := W 12
  have L : ∀ (F k : Nat) (w : Int) (s : Hp), (k : Int) ≤ a.facts → a.facts - k < F → w = bI (∀ f : Nat, f < k → cnf a m t x y f ≠ 0 → cnf a m t x y f = 1) → (∀ q : Nat, q ≠ 167 → s q = σ' q) → (∀ f : Nat, f < k → cnf a m t x y f ≠ 0 → s 167 (nC (cnf a m t x y) f) = f) → Okk (f_M_spots_9 t x y m F (nC (cnf a m t x y) k) w k s) fun r => r.1 = nC (cnf a m t x y) a.facts.toNat ∧ r.2.1 = bI (wOne a m t x y) ∧ (∀ q : Nat, q ≠ 167 → r.2.2.2 q = σ' q) ∧ ∀ f : Nat, (f : Int) < a.facts → cnf a m t x y f ≠ 0 → r.2.2.2 167 (nC (cnf a m t x y) f) = f := by
    intro F
    induction F with
    | zero => intro k w s k1 hF; omega
    | succ F ih =>
      intro k w s k1 hF hw E hi
      have V : Vw s a := fun q j hq => by
        have : q ≠ 167 := by unfold vwP at hq; omega
        rw [E q this]; exact V1 q j hq
      have nb := nC_b (cnf a m t x y) k
      rw [f_M_spots_9, w_facts V]
      refine ok_ite (fun g => ok_some ⟨by rw [show a.facts.toNat = k by omega], ?_, E, fun f f1 f2 => hi f (by omega) f2⟩) (fun g => ok_grd (by omega) ?_)
      · rw [hw]
        refine bI_iff ⟨fun h => (wOne_f W).mpr (fun f f1 f2 => h f (by omega) f2), fun h f f1 f2 => (wOne_f W).mp h f (by omega) f2⟩
      · rw [w_fm V]
        refine ok_call (P := fun j => j = cnf a m t x y k) ?_ ?_
        · refine ok_ite (fun q => ok_some ?_) (fun q => ?_)
          · unfold cnf; rw [if_neg q]
          · refine ok_eqb (e_M_counts W V (f := k) (by omega) (by omega) hc.1 hc.2.1 hc.2.2) (ok_some ?_)
            unfold cnf; rw [if_pos (Classical.not_not.mp q)]
        rintro j rfl
        refine ok_grd (by omega) ?_
        have E2 : ∀ q : Nat, q ≠ 167 → (hset s 167 (nC (cnf a m t x y) k) k) q = σ' q := fun q q1 => by rw [hset_ne q1]; exact E q q1
        have hi2 : ∀ f : Nat, f < k + 1 → cnf a m t x y f ≠ 0 → (hset s 167 (nC (cnf a m t x y) k) k) 167 (nC (cnf a m t x y) f) = f := fun f f1 f2 => by
          by_cases z : f = k
          · rw [z, hs_eq]
          · have hlt := nC_le (cnf a m t x y) (f + 1) (k - (f + 1))
            rw [show f + 1 + (k - (f + 1)) = k by omega, nC_y f2] at hlt
            rw [hs_nj (by omega)]; exact hi f (by omega) f2
        have step : ∀ w' : Int, w' = bI (cnf a m t x y k ≠ 0 → cnf a m t x y k = 1) → iand w w' = bI (∀ f : Nat, f < k + 1 → cnf a m t x y f ≠ 0 → cnf a m t x y f = 1) := fun w' hw' => by
          rw [hw, hw']
          by_cases z1 : ∀ f : Nat, f < k → cnf a m t x y f ≠ 0 → cnf a m t x y f = 1
          · by_cases z2 : cnf a m t x y k ≠ 0 → cnf a m t x y k = 1
            · rw [bI_t z1, bI_t z2, bI_t (fun f f1 f2 => ?_), iand_00.2.2.2]
              by_cases z : f = k
              · rw [z] at f2 ⊢; exact z2 f2
              · exact z1 f (by omega) f2
            · rw [bI_t z1, bI_f z2, bI_f (fun h => z2 (h k (by omega))), iand_00.2.2.1]
          · rw [bI_f z1, bI_f (P := ∀ f : Nat, f < k + 1 → cnf a m t x y f ≠ 0 → cnf a m t x y f = 1) (fun h => z1 (fun f f1 f2 => h f (by omega) f2))]
            rcases bI_r (cnf a m t x y k ≠ 0 → cnf a m t x y k = 1) with ⟨r0, r1⟩
            have : bI (cnf a m t x y k ≠ 0 → cnf a m t x y k = 1) = 0 ∨ bI (cnf a m t x y k ≠ 0 → cnf a m t x y k = 1) = 1 := by omega
            rcases this with r | r <;> rw [r]
            · exact iand_00.1
            · exact iand_00.2.1
        have ek : ((k : Int) + 1) = ((k + 1 : Nat) : Int) := by omega
        by_cases c0 : cnf a m t x y k = 0
        · rw [if_pos c0, if_pos c0]
          refine ok_bind (ok_some (ok_grd (by (first | omega | (unfold r32; omega) | (unfold r64; omega) | (simp only [r32, r64] at *; omega))) (ok_bind (ok_some (ok_grd (by (first | omega | (unfold r32; omega) | (unfold r64; omega) | (simp only [r32, r64] at *; omega))) ?_)))))
          rw [ek, step 1 (bI_t (fun q => absurd c0 q)).symm]
          have e0 : nC (cnf a m t x y) k + 0 = nC (cnf a m t x y) (k + 1) := by rw [nC_n c0]; omega
          rw [e0]
          exact ih (k + 1) _ _ (by omega) (by omega) rfl E2 hi2
        · rw [if_neg c0, if_neg c0]
          have e0 : nC (cnf a m t x y) k + 1 = nC (cnf a m t x y) (k + 1) := by rw [nC_y c0]
          by_cases c1 : cnf a m t x y k = 1
          · rw [if_neg (fun q => q c1)]
            refine ok_bind (ok_some (ok_grd (by (first | omega | (unfold r32; omega) | (unfold r64; omega) | (simp only [r32, r64] at *; omega))) (ok_bind (ok_some (ok_grd (by (first | omega | (unfold r32; omega) | (unfold r64; omega) | (simp only [r32, r64] at *; omega))) ?_)))))
            rw [ek, step 1 (bI_t (fun _ => c1)).symm, e0]
            exact ih (k + 1) _ _ (by omega) (by omega) rfl E2 hi2
          · rw [if_pos c1]
            refine ok_bind (ok_some (ok_grd (by (first | omega | (unfold r32; omega) | (unfold r64; omega) | (simp only [r32, r64] at *; omega))) (ok_bind (ok_some (ok_grd (by (first | omega | (unfold r32; omega) | (unfold r64; omega) | (simp only [r32, r64] at *; omega))) ?_)))))
            rw [ek, step 0 (bI_f (fun q => c1 (q c0))).symm, e0]
            exact ih (k + 1) _ _ (by omega) (by omega) rfl E2 hi2
  unfold f_M_spots
  refine ok_call (L zFuel 0 1 σ' (by omega) (by unfold zFuel; omega) (bI_t (fun f f1 => by omega)).symm (fun _ _ => rfl) (fun f f1 => by omega)) ?_
  rintro r ⟨r1, r2, r3, r4⟩
  rw [r1, r2]
  refine ok_call (P := fun j => j = if bI (wOne a m t x y) = 0 then -1 else (wN a m t x y : Int)) (ok_ite (fun q => ok_some (by rw [if_pos q])) (fun q => ok_some (by rw [if_neg q, wN_e]))) ?_
  rintro j hj
  refine ok_some ⟨hj, r3, fun i i0 i1 => ?_⟩
  obtain ⟨f, f1, f2, f3, f4, f5, _⟩ := wS_r W i0 i1
  have g := r4 f f1 f2
  rw [f3] at g
  dsimp only
  rw [f4]; exact g
/-- what is out of range -/
theorem m_196 {g : Int → Int} {s : Hp} {N : Nat} (N1 : N ≤ 50) {j25 : Int × Hp} (hj : j25.1 = N) (hg : ∀ i : Int, 0 ≤ i → i < N → s 168 i = g i) : Okk (f_M_write_196 j25 s zFuel 0 0) fun r => r.1 = bI (¬ ∀ i : Int, 0 ≤ i → i < N → -1000000 ≤ g i ∧ g i ≤ 1000000) := by
  have L : ∀ (F k : Nat) (w : Int), k ≤ N → N - k < F → w = bI (¬ ∀ i : Int, 0 ≤ i → i < k → -1000000 ≤ g i ∧ g i ≤ 1000000) → Okk (f_M_write_196 j25 s F w k) fun r => r.1 = bI (¬ ∀ i : Int, 0 ≤ i → i < N → -1000000 ≤ g i ∧ g i ≤ 1000000) := by
    intro F
    induction F with
    | zero => intro k w k1 hF; omega
    | succ F ih =>
      intro k w k1 hF hw
      rw [f_M_write_196, hj]
      refine ok_ite (fun q => ok_some (by rw [show N = k by omega]; exact hw)) (fun q => ok_grd (by omega) ?_)
      refine ok_eqb (e_M_in s (s 168 k) (-1000000) 1000000) ?_
      rw [hg k (by omega) (by omega)]
      refine ok_call (P := fun j => j = bI (¬ (-1000000 ≤ g k ∧ g k ≤ 1000000))) ?_ ?_
      · by_cases z : -1000000 ≤ g k ∧ g k ≤ 1000000
        · rw [bI_t z, if_pos (by omega)]; exact ok_some (bI_f (fun w => w z)).symm
        · rw [bI_f z, if_neg (by omega)]; exact ok_some (bI_t z).symm
      rintro j rfl
      refine ok_grd (by (first | omega | (unfold r32; omega) | (unfold r64; omega) | (simp only [r32, r64] at *; omega))) ?_
      rw [show ((k : Int) + 1) = ((k + 1 : Nat) : Int) by omega]
      refine ih (k + 1) _ (by omega) (by omega) ?_
      rw [hw]
      by_cases z1 : ∀ i : Int, 0 ≤ i → i < k → -1000000 ≤ g i ∧ g i ≤ 1000000
      · by_cases z2 : -1000000 ≤ g k ∧ g k ≤ 1000000
        · have e3 : bI (¬ ∀ i : Int, 0 ≤ i → i < ((k + 1 : Nat) : Int) → -1000000 ≤ g i ∧ g i ≤ 1000000) = 0 := bI_f (fun w => w (fun i i0 i1 => by
            by_cases z : i = k
            · rw [z]; exact z2
            · exact z1 i i0 (by omega)))
          rw [bI_f (fun w => w z1), bI_f (fun w => w z2), e3]
          exact ior_00.1
        · rw [bI_f (fun w => w z1), bI_t z2, bI_t (fun w => z2 (w k (by omega) (by omega)))]
          exact ior_00.2.1
      · rw [bI_t z1, bI_t (P := ¬ ∀ i : Int, 0 ≤ i → i < ((k + 1 : Nat) : Int) → -1000000 ≤ g i ∧ g i ≤ 1000000) (fun w => z1 (fun i i0 i1 => w i i0 (by omega)))]
        rcases bI_r (¬ (-1000000 ≤ g k ∧ g k ≤ 1000000)) with ⟨r0, r1⟩
        have : bI (¬ (-1000000 ≤ g k ∧ g k ≤ 1000000)) = 0 ∨ bI (¬ (-1000000 ≤ g k ∧ g k ≤ 1000000)) = 1 := by omega
        rcases this with r | r <;> rw [r]
        · exact ior_00.2.2.1
        · exact ior_00.2.2.2
  exact L zFuel 0 0 (by omega) (by unfold zFuel; omega) (bI_f (fun w => w (fun i i0 i1 => by omega))).symm
/-- what is put may touch this -/
def pcw (σ σ' : Hp) (c : Nat) : Prop := (∀ q : Nat, q < 129 ∨ 169 < q ∨ q = 161 ∨ q = 160 ∨ q = 166 ∨ q = 167 ∨ q = 168 ∨ q = 169 → σ' q = σ q) ∧ σ' 129 46 = σ 129 46 ∧ σ' 129 50 = σ 129 50 ∧ σ 129 38 ≤ σ' 129 38 ∧ σ' 129 38 ≤ σ 129 38 + c
theorem m_343 (W : WFA a) (K : WFW a) {g : Int → Int} (hg : ∀ i : Int, 0 ≤ i → i < wN a m t x y → -1000000 ≤ g i ∧ g i ≤ 1000000) {s0 : Hp} (V0 : Vw s0 a) (h38 : -1 ≤ s0 129 38 ∧ s0 129 38 ≤ 2000000000) (h1 : ∀ i : Int, 0 ≤ i → i < wN a m t x y → s0 167 i = wS a m t x y i) (h2 : ∀ i : Int, 0 ≤ i → i < wN a m t x y → s0 168 i = g i) {j25 : Int × Hp} (hj : j25.1 = wN a m t x y) : Okk (f_M_write_343 j25 zFuel 0 0 s0) fun r => r.1 = pC a (wS a m t x y) g (wN a m t x y) ∧ Vw r.2.2 (pA a (wS a m t x y) g (wN a m t x y)) ∧ pcw s0 r.2.2 50 ∧ (pC a (wS a m t x y) g (wN a m t x y) = 0 → r.2.2 129 38 = s0 129 38) ∧ (pC a (wS a m t x y) g (wN a m t x y) ≠ 0 → s0 129 38 < r.2.2 129 38) := by
  have N1 := wN_50 (m := m) (t := t) (x := x) (y := y) W
  have L : ∀ (F k : Nat) (s : Hp), k ≤ wN a m t x y → wN a m t x y - k < F → Vw s (pA a (wS a m t x y) g k) → pcw s0 s k → (pC a (wS a m t x y) g k = 0 → s 129 38 = s0 129 38) → (pC a (wS a m t x y) g k ≠ 0 → s0 129 38 < s 129 38) → Okk (f_M_write_343 j25 F (pC a (wS a m t x y) g k) k s) fun r => r.1 = pC a (wS a m t x y) g (wN a m t x y) ∧ Vw r.2.2 (pA a (wS a m t x y) g (wN a m t x y)) ∧ pcw s0 r.2.2 50 ∧ (pC a (wS a m t x y) g (wN a m t x y) = 0 → r.2.2 129 38 = s0 129 38) ∧ (pC a (wS a m t x y) g (wN a m t x y) ≠ 0 → s0 129 38 < r.2.2 129 38) := by
    intro F
    induction F with
    | zero => intro k s k1 hF; omega
    | succ F ih =>
      intro k s k1 hF V P q0 q1
      have cb := pC_b (a := a) (wS a m t x y) g k
      have PW := pA_W W K (sp := wS a m t x y) k (fun i i0 i1 => hg i i0 (by omega))
      obtain ⟨p1, p2, p3, p4, p5⟩ := P
      rw [f_M_write_343, hj]
      refine ok_ite (fun q => ok_some ?_) (fun q => ?_)
      · rw [show wN a m t x y = k by omega]
        exact ⟨rfl, V, ⟨p1, p2, p3, p4, by dsimp only; omega⟩, q0, q1⟩
      obtain ⟨f, f1, f2, f3, f4, f5, _⟩ := wS_r W (i := k) (by omega) (show (k : Int) < wN a m t x y by omega)
      have gk := hg k (by omega) (by omega)
      have e7 : s 167 k = wS a m t x y k := by rw [p1 167 (by omega)]; exact h1 k (by omega) (by omega)
      have e8 : s 168 k = g k := by rw [p1 168 (by omega)]; exact h2 k (by omega) (by omega)
      rw [e7, e8, w_ft V, w_fa V, w_fb V, w_fm V]
      refine ok_grd (by omega) (ok_grd (by omega) (ok_grd (by omega) (ok_grd (by omega) (ok_grd (by omega) (ok_grd (by omega) (ok_grd (by (first | omega | (unfold r32; omega) | (unfold r64; omega) | (simp only [r32, r64] at *; omega))) ?_))))))
      refine ok_call (e_M_put_set PW.1 V (f := wS a m t x y k) (v := g k) (by rw [f4]; omega) (by rw [f4, PW.2.2.2]; exact f1) gk (by (first | omega | (unfold r32; omega) | (unfold r64; omega) | (simp only [r32, r64] at *; omega)))) ?_
      rintro r ⟨r1, r2, ⟨r3, r4, r5, r6, r7⟩, r8, r9⟩
      refine ok_call (P := fun j => j = if (pA a (wS a m t x y) g k).fv (wS a m t x y k) = g k then 0 else 1) ?_ ?_
      · rw [r1]
        by_cases z : (pA a (wS a m t x y) g k).fv (wS a m t x y k) = g k
        · rw [if_pos z, if_pos rfl]; exact ok_some rfl
        · rw [if_neg z, if_neg (by omega)]; exact ok_some rfl
      · intro j hj2
        have j01 : 0 ≤ j ∧ j ≤ 1 := by
          rw [hj2]
          by_cases z : (pA a (wS a m t x y) g k).fv (wS a m t x y k) = g k
          · rw [if_pos z]; omega
          · rw [if_neg z]; omega
        refine ok_grd (by (first | omega | (unfold r32; omega) | (unfold r64; omega) | (simp only [r32, r64] at *; omega))) (ok_grd (by (first | omega | (unfold r32; omega) | (unfold r64; omega) | (simp only [r32, r64] at *; omega))) ?_)
        rw [hj2, ← pC_s, show ((k : Int) + 1) = ((k + 1 : Nat) : Int) by omega]
        refine ih (k + 1) r.2 (by omega) (by omega) r2 ⟨fun q hq => (r3 q hq).trans (p1 q hq), r4.trans p2, r5.trans p3, by omega, by omega⟩ (fun z => ?_) (fun z => ?_)
        · rw [pC_s] at z
          by_cases w : (pA a (wS a m t x y) g k).fv (wS a m t x y k) = g k
          · rw [if_pos w] at z; rw [r8 w]; exact q0 (by omega)
          · rw [if_neg w] at z; omega
        · rw [pC_s] at z
          by_cases w : (pA a (wS a m t x y) g k).fv (wS a m t x y k) = g k
          · rw [if_pos w] at z; rw [r8 w]; exact q1 (by omega)
          · have := r9 w; omega
  exact L zFuel 0 s0 (by omega) (by unfold zFuel; omega) V0 ⟨fun _ _ => rfl, rfl, rfl, Int.le_refl _, by omega⟩ (fun _ => rfl) (fun z => absurd rfl z)
end
