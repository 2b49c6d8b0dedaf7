section
variable {σ : Hp} {a a' b : Ab} {n : Nat} {B : Int} {e : Nat}
theorem ok_call2 {α β γ : Type} {x : Option α} {f : α → Option β} {g : β → Option γ} {P : β → Prop} {Q : γ → Prop} (H : Okk (x.bind f) P) (K : ∀ b, P b → Okk (g b) Q) : Okk (x.bind fun v => (f v).bind g) Q := by
  cases x with
  | none => obtain ⟨a, h, _⟩ := H; cases h
  | some v =>
    show Okk ((f v).bind g) Q
    exact ok_call (show Okk (f v) P from H) K
theorem r_plain (W : WFA a) (R : ICR σ a) {d m : Int} (hd : inD d) (ht : thr a d m) : f_D_isPlain σ (dP d) m = some (bI (isP a d m)) := by
  have e0 : σ (dP d) 0 = a.many d := icr_d R hd 0
  have e5 : σ (dP d + 5) m = a.kind (12 * d + m) := (show ∀ m : Int, thr a d m → σ (dP d + 5) m = a.kind (12 * d + m) from icr_d R hd 3) m ht
  have m12 := thr12 W hd ht
  rw [e_D_isPlain, e0, e5]
  refine congrArg some (bI_iff ⟨fun g => g.2.2.2, fun g => ⟨m12.1, ht.2, m12.2, g⟩⟩)
theorem nmv_12 (W : WFA a) : ∀ k : Nat, (k : Int) ≤ a.moves → nmv a 1 k + nmv a 2 k = k
  | 0, _ => rfl
  | k + 1, h => by
    have h7 : 0 ≤ a.moves ∧ a.moves ≤ 10 ∧ ∀ k : Int, 0 ≤ k → k < a.moves → (a.vd k = 1 ∨ a.vd k = 2) ∧ _ := W 7
    have ih := nmv_12 W k (by omega)
    rcases (h7.2.2 k (by omega) (by omega)).1 with g | g
    · rw [nmv_s g, nmv_n (d := 2) (by omega)]; omega
    · rw [nmv_s g, nmv_n (d := 1) (by omega)]; omega
theorem e_movesTold (W : WFA a) (R : ICR σ a) : f_S_movesTold σ = some a.moves := by
  have h7 : 0 ≤ a.moves ∧ a.moves ≤ 10 ∧ _ := W 7
  have g1 : σ 33 0 = nmv a 1 a.moves.toNat ∧ _ := R.2.1 13
  have g2 : σ 63 0 = nmv a 2 a.moves.toNat ∧ _ := R.2.2.1 13
  have s := nmv_12 W a.moves.toNat (by omega)
  unfold f_S_movesTold
  apply ok_eq
  rw [g1.1, g2.1]
  exact ok_grd (by (first | omega | (unfold r32; omega) | (unfold r64; omega) | (simp only [r32, r64] at *; omega))) (ok_some (by omega))
/-- the class's checks of a move -/
def mvJ (a : Ab) (d m p t : Int) : Prop := mvPl a d m p t ∧ p < m ∧ a.moves < 10
end
