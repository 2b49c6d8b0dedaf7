/-! ===== pick: what is asked for ===== -/
section
variable {σ : Hp} {a a' b : Ab} {n : Nat} {B : Int} {e : Nat}
/-- no PLAIN member is below y -/
def leafP (a : Ab) (d y : Int) : Prop := ∀ k : Int, 1 ≤ k → k < a.many d → isP a d k → now a d k ≠ y
/-- member y is asked for -/
def askP (a : Ab) (d h z y : Int) : Prop := isP a d y ∧ seeP a d y ∧ (h = 0 → 0 < y ∧ now a d y = z) ∧ (h = 2 → dep a d y = z) ∧ (h = 1 → leafP a d y ∧ wt a d y z 99 ≠ 2)
noncomputable def askC (a : Ab) (d h z : Int) : Int → Int := fun y => bI (askP a d h z y)
def hOk (a : Ab) (d h z : Int) : Prop := inD d ∧ (h = 0 ∨ h = 1 ∨ h = 2) ∧ (h ≠ 2 → thr a d z ∧ isP a d z) ∧ (h = 2 → 0 ≤ z ∧ z ≤ 11)
theorem c_isLeaf (W : WFA a) {d y : Int} (R : ∀ k : Nat, k ≠ 2 → icd σ a (dP d) d k) (hd : inD d) (hy : thr a d y) : f_D_isLeaf σ (dP d) y = some (bI (leafP a d y)) := by
  have mb := many_b W hd
  have e0 : σ (dP d) 0 = a.many d := R 0 (by omega)
  have L : ∀ (F : Nat) (k : Int), 1 ≤ k → k ≤ a.many d → a.many d - k < F → (∀ j : Int, 1 ≤ j → j < k → isP a d j → now a d j ≠ y) → Okk (f_D_isLeaf_2 σ (dP d) y F k) fun r => r = bI (leafP a d y) := by
    intro F
    induction F with
    | zero => intro k k0 k1 hF; omega
    | succ F ih =>
      intro k k0 k1 hF hj
      rw [f_D_isLeaf_2, e0]
      refine ok_ite (fun g => ok_grd (by omega) (ok_some (bI_t (fun j j0 j1 hp => hj j j0 (by omega) hp)).symm)) (fun g => ?_)
      have ht : thr a d k := ⟨by omega, by omega⟩
      have e5 : σ (dP d + 5) k = a.kind (12 * d + k) := (show ∀ m : Int, thr a d m → σ (dP d + 5) m = a.kind (12 * d + m) from R 3 (by omega)) k ht
      have nx : (isP a d k → now a d k ≠ y) → Okk (grd (r32 (k + 1)) <| f_D_isLeaf_2 σ (dP d) y F (k + 1)) fun r => r = bI (leafP a d y) := fun h => ok_grd (by (first | omega | (unfold r32; omega) | (unfold r64; omega) | (simp only [r32, r64] at *; omega))) (ih (k + 1) (by omega) (by omega) (by omega) (fun j j0 j1 hp => by
        by_cases z : j = k
        · rw [z] at hp ⊢; exact h hp
        · exact hj j j0 (by omega) hp))
      refine ok_eqb (e_D_parentOf σ (dP d) k) ?_
      rw [e0, e5]
      by_cases hp : isP a d k
      · have hp' : a.kind (12 * d + k) = 0 := hp
        have e13 : σ (dP d + 13) k = now a d k := by
          have := (show ∀ m : Int, thr a d m → isP a d m → σ (dP d + 13) m = if m = 0 then -1 else now a d m from R 8 (by omega)) k ht hp
          rw [this, if_neg (by omega)]
        have ev : (if 0 ≤ k ∧ k < a.many d ∧ k < 12 ∧ a.kind (12 * d + k) = 0 then σ (dP d + 13) k else -1) = now a d k := by rw [if_pos ⟨by omega, by omega, by omega, hp'⟩, e13]
        rw [ev]
        refine ok_ite (fun q => nx (fun _ => q)) (fun q => ok_grd (by omega) (ok_some (bI_f (fun z => z k k0 (by omega) hp (Classical.not_not.mp q))).symm))
      · have ev : (if 0 ≤ k ∧ k < a.many d ∧ k < 12 ∧ a.kind (12 * d + k) = 0 then σ (dP d + 13) k else -1) = -1 := if_neg (fun z => hp z.2.2.2)
        rw [ev, if_pos (show (-1 : Int) ≠ y by have := hy.1; omega)]
        exact nx (fun h => absurd h hp)
  unfold f_D_isLeaf
  exact ok_eq (L zFuel 1 (by omega) (by omega) (by unfold zFuel; omega) (fun j j0 j1 => by omega))
/-- the class's question -/
theorem c_isAsked (W : WFA a) {d h z y : Int} (R : ∀ k : Nat, k ≠ 2 → icd σ a (dP d) d k) (H : hOk a d h z) (hy : thr a d y) (hp : isP a d y) (hs : seeP a d y) : f_D_isAsked σ (dP d) h z y = some (askC a d h z y) := by
  obtain ⟨hd, hh, h1, h2⟩ := H
  have mb := many_b W hd
  have y12 := thr12 W hd hy
  have e0 : σ (dP d) 0 = a.many d := R 0 (by omega)
  unfold f_D_isAsked
  apply ok_eq
  rcases hh with rfl | rfl | rfl
  · have hz := h1 (by omega)
    have e13 := (show ∀ m : Int, thr a d m → isP a d m → σ (dP d + 13) m = if m = 0 then -1 else now a d m from R 8 (by omega)) y hy hp
    rw [if_neg (by omega), e13]
    refine ok_grd ⟨y12.1, y12.2⟩ (ok_call (P := fun r => r = askC a d 0 z y) ?_ ?_)
    · by_cases y0 : y = 0
      · rw [if_pos y0, if_pos (show (-1 : Int) ≠ z by have := hz.1.1; omega)]
        exact ok_some (bI_f (fun q => by have := (q.2.2.1 rfl).1; omega)).symm
      · rw [if_neg y0]
        refine ok_ite (fun q => ok_some (bI_f (fun w => q (w.2.2.1 rfl).2)).symm) (fun q => ok_some (bI_t ⟨hp, hs, fun _ => ⟨by omega, Classical.not_not.mp q⟩, fun g => by omega, fun g => by omega⟩).symm)
    · rintro r rfl
      exact ok_grd (bI_r _) (ok_some rfl)
  · have hz := h1 (by omega)
    have z12 := thr12 W hd hz.1
    rw [if_pos (by omega), if_pos (by omega)]
    refine ok_eqb (e_D_has σ (dP d) z) ?_
    rw [e0, bI_t ⟨z12.1, hz.1.2, z12.2⟩, if_neg (by omega)]
    refine ok_call (P := fun r => r = askC a d 1 z y) ?_ ?_
    · refine ok_eqb (c_isLeaf W R hd hy) ?_
      by_cases lf : leafP a d y
      · rw [bI_t lf, if_neg (by omega)]
        have e29 := (show ∀ m o : Int, thr a d m → thr a d o → isP a d m → a.kind (12 * d + o) ≠ 2 → σ (dP d + 29) (12 * m + o) = wgt a d m o 99 from R 11 (by omega)) y z hy hz.1 hp (by have : a.kind (12 * d + z) = 0 := hz.2; omega)
        have ew : wgt a d y z 99 = wt a d y z 99 := by unfold wgt; rw [if_pos hz.2]
        rw [show dP d + 16 + 1 + Int.toNat 12 = dP d + 29 from rfl, show y * 12 + z = 12 * y + z by omega, e29, ew]
        refine ok_grd (by omega) (ok_grd (by (first | omega | (unfold r32; omega) | (unfold r64; omega) | (simp only [r32, r64] at *; omega))) (ok_grd (by (first | omega | (unfold r32; omega) | (unfold r64; omega) | (simp only [r32, r64] at *; omega))) (ok_grd (by omega) (ok_ite (fun q => ok_some (bI_f (fun w => (w.2.2.2.2 rfl).2 q)).symm) (fun q => ok_some (bI_t ⟨hp, hs, fun g => by omega, fun g => by omega, fun _ => ⟨lf, q⟩⟩).symm)))))
      · rw [bI_f lf, if_pos rfl]
        exact ok_some (bI_f (fun w => lf (w.2.2.2.2 rfl).1)).symm
    · rintro r rfl
      exact ok_grd (bI_r _) (ok_some rfl)
  · have e14 := (show ∀ m : Int, thr a d m → isP a d m → σ (dP d + 14) m = dep a d m from R 9 (by omega)) y hy hp
    rw [if_pos (by omega), if_neg (by omega), e14]
    refine ok_grd ⟨y12.1, y12.2⟩ (ok_call (P := fun r => r = askC a d 2 z y) ?_ ?_)
    · refine ok_ite (fun q => ok_some (bI_f (fun w => q (w.2.2.2.1 rfl))).symm) (fun q => ok_some (bI_t ⟨hp, hs, fun g => by omega, fun _ => Classical.not_not.mp q, fun g => by omega⟩).symm)
    · rintro r rfl
      exact ok_grd (bI_r _) (ok_some rfl)
end
