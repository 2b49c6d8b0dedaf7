/-! ===== the mathematics: how the functions' runs are proved ===== -/
def Okk {α : Type} (x : Option α) (Q : α → Prop) : Prop := ∃ a, x = some a ∧ Q a
theorem ok_some {α : Type} {a : α} {Q : α → Prop} (h : Q a) : Okk (some a) Q := ⟨a, rfl, h⟩
theorem ok_grd {α : Type} {c : Prop} {k : Option α} {Q : α → Prop} (h : c) (K : Okk k Q) : Okk (grd c k) Q := by rw [grd_t h]; exact K
theorem ok_bind {α β : Type} {x : Option α} {f : α → Option β} {Q : β → Prop} (K : Okk x fun a => Okk (f a) Q) : Okk (x.bind f) Q := by
  obtain ⟨a, rfl, b, h, hb⟩ := K
  exact ⟨b, h, hb⟩
theorem ok_call {α β : Type} {x : Option α} {f : α → Option β} {P : α → Prop} {Q : β → Prop} (H : Okk x P) (K : ∀ a, P a → Okk (f a) Q) : Okk (x.bind f) Q := by
  obtain ⟨a, rfl, h⟩ := H
  exact K a h
theorem ok_eqb {α β : Type} {x : Option α} {v : α} {f : α → Option β} {Q : β → Prop} (H : x = some v) (K : Okk (f v) Q) : Okk (x.bind f) Q := by
  rw [H]; exact K
theorem ok_ite {α : Type} {c : Prop} [Decidable c] {a b : Option α} {Q : α → Prop} (h1 : c → Okk a Q) (h2 : ¬ c → Okk b Q) : Okk (if c then a else b) Q := by
  by_cases h : c
  · rw [if_pos h]; exact h1 h
  · rw [if_neg h]; exact h2 h
theorem ok_mono {α : Type} {x : Option α} {P Q : α → Prop} (H : Okk x P) (h : ∀ a, P a → Q a) : Okk x Q := by
  obtain ⟨a, e, p⟩ := H
  exact ⟨a, e, h a p⟩
theorem ok_eq {α : Type} {x : Option α} {v : α} (H : Okk x fun a => a = v) : x = some v := by
  obtain ⟨a, rfl, rfl⟩ := H; rfl
theorem eq_ok {α : Type} {x : Option α} {v : α} {Q : α → Prop} (H : x = some v) (h : Q v) : Okk x Q := ⟨v, H, h⟩
noncomputable def bI (P : Prop) : Int := @ite _ P (Classical.propDecidable P) 1 0
theorem bI_t {P : Prop} (h : P) : bI P = 1 := by unfold bI; rw [if_pos h]
theorem bI_f {P : Prop} (h : ¬ P) : bI P = 0 := by unfold bI; rw [if_neg h]
theorem bI_0 {P : Prop} : bI P = 0 ↔ ¬ P := by
  by_cases h : P
  · rw [bI_t h]; simp [h]
  · rw [bI_f h]; simp [h]
theorem bI_1 {P : Prop} : bI P = 1 ↔ P := by
  by_cases h : P
  · rw [bI_t h]; simp [h]
  · rw [bI_f h]; simp [h]
theorem bI_r (P : Prop) : 0 ≤ bI P ∧ bI P ≤ 1 := by
  by_cases h : P
  · rw [bI_t h]; omega
  · rw [bI_f h]; omega
theorem bI_iff {P Q : Prop} (h : P ↔ Q) : bI P = bI Q := by rw [propext h]
theorem bI_eq {P : Prop} {v : Int} (h : (v = 1 ∧ P) ∨ (v = 0 ∧ ¬ P)) : v = bI P := by
  rcases h with ⟨rfl, h⟩ | ⟨rfl, h⟩
  · exact (bI_t h).symm
  · exact (bI_f h).symm
theorem hs_eq {σ : Hp} {p : Nat} {i v : Int} : hset σ p i v p i = v := by simp [hset]
theorem hs_ne {σ : Hp} {p q : Nat} {i j v : Int} (h : q ≠ p) : hset σ p i v q j = σ q j := by simp [hset, h]
theorem hs_nj {σ : Hp} {p q : Nat} {i j v : Int} (h : j ≠ i) : hset σ p i v q j = σ q j := by simp [hset, h]
theorem hs_if {σ : Hp} {p : Nat} {i j v : Int} : hset σ p i v p j = if j = i then v else σ p j := by simp [hset]
theorem e_D_has (σ : Hp) (p : Nat) (x : Int) : f_D_has σ p x = some (bI (0 ≤ x ∧ x < σ p 0 ∧ x < 12)) := by
  unfold f_D_has
  apply ok_eq
  (repeat' (first | with_reducible refine ok_bind ?_ | (with_reducible refine ok_ite (fun _ => ?_) (fun _ => ?_) <;> try (simp only [bI_0, bI_1, ne_eq, Classical.not_not, not_true_eq_false] at *)) | with_reducible refine ok_grd (by (first | omega | (unfold r32; omega) | (unfold r64; omega) | (simp only [r32, r64] at *; omega))) ?_ | with_reducible refine ok_some ?_)) <;> (first | exact bI_eq (Or.inl ⟨rfl, by omega⟩) | exact bI_eq (Or.inr ⟨rfl, by omega⟩))
theorem e_D_isPlain (σ : Hp) (p : Nat) (x : Int) : f_D_isPlain σ p x = some (bI (0 ≤ x ∧ x < σ p 0 ∧ x < 12 ∧ σ (p + 5) x = 0)) := by
  unfold f_D_isPlain
  apply ok_eq
  refine ok_eqb (e_D_has σ p x) ?_
  (repeat' (first | with_reducible refine ok_bind ?_ | (with_reducible refine ok_ite (fun _ => ?_) (fun _ => ?_) <;> try (simp only [bI_0, bI_1, ne_eq, Classical.not_not, not_true_eq_false] at *)) | with_reducible refine ok_grd (by (first | omega | (unfold r32; omega) | (unfold r64; omega) | (simp only [r32, r64] at *; omega))) ?_ | with_reducible refine ok_some ?_)) <;> (first | exact bI_eq (Or.inl ⟨rfl, by omega⟩) | exact bI_eq (Or.inr ⟨rfl, by omega⟩))
