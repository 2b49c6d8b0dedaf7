/-! ===== a member more: what the class was told ===== -/
section
variable {σ : Hp} {a a' b : Ab} {n : Nat} {B : Int} {e : Nat} {d kd pr sg st o : Int}
/-- the class's rows of a dimension with a member more -/
def nwS (σ s : Hp) (p : Nat) (m kd pr sg st o : Int) : Prop := s p 0 = m + 1 ∧ (∀ j : Int, j ≠ 0 → s p j = σ p j) ∧ (∀ j : Int, s (p + 5) j = if j = m then kd else σ (p + 5) j) ∧ (∀ q : Nat, q = p + 6 ∨ q = p + 7 ∨ q = p + 8 ∨ q = p + 9 → ∀ j : Int, j ≠ m → s q j = σ q j) ∧ (kd = 0 → s (p + 6) m = pr ∧ s (p + 7) m = sg) ∧ (kd = 1 → s (p + 8) m = st) ∧ (kd = 2 → s (p + 9) m = o) ∧ ∀ q : Nat, (p + 1 ≤ q ∧ q ≤ p + 4) ∨ q = p + 10 ∨ q = p + 12 ∨ q = p + 13 ∨ q = p + 14 ∨ (p + 15 ≤ q ∧ q ≤ p + 29 ∧ kd ≠ 2) → s q = σ q
theorem nmv_x {c : Ab} (h : c.vd = a.vd) (d' : Int) : ∀ k : Nat, nmv c d' k = nmv a d' k
  | 0 => rfl
  | k + 1 => by unfold nmv; rw [nmv_x h d' k, h]
theorem told_nw (W : WFA a) (C : nwC a d kd pr sg st o) (N : nwB a b d kd pr sg st o) (P : spk a b) (hk : kd ≠ 2) {s : Hp} (H : ICD σ a (dP d) d) (S : nwS σ s (dP d) (a.many d) kd pr sg st o) : told s b (dP d) d := by
  obtain ⟨hd, hm, hc⟩ := C
  have mb := many_b W hd
  obtain ⟨h0, h1, h2, h3, h4, h5, h6, h7, h13, z1, z2, z3⟩ := told_of W hd H
  obtain ⟨s0, s1, s5, s6, sa, sb, sc, sq⟩ := S
  have h136 : b.hid = a.hid := N.2.2.2.2.2.2.1 136 (by omega)
  have h141 : b.vd = a.vd := N.2.2.2.2.2.2.1 141 (by omega)
  have h142 : b.vm = a.vm := N.2.2.2.2.2.2.1 142 (by omega)
  have h143 : b.vp = a.vp := N.2.2.2.2.2.2.1 143 (by omega)
  have h144 : b.vt = a.vt := N.2.2.2.2.2.2.1 144 (by omega)
  have hmv := N.2.2.2.2.2.2.2
  have h163 : b.chos = a.chos := P.1
  have h164 : b.pick = a.pick := P.2.1
  have h165 : b.picks = a.picks := P.2.2
  have ix : ∀ m : Int, (12 * d + m = 12 * d + a.many d) ↔ m = a.many d := fun m => by omega
  have old : ∀ m : Int, thr b d m → m ≠ a.many d → thr a d m := fun m ht hne => (nw_t N (fun g => hne g.2)).mp ht
  refine ⟨?_, ?_, ?_, ?_, ?_, ?_, ?_, ?_, ?_, ?_, ?_, ?_⟩
  · show s (dP d) 0 = b.many d
    rw [s0, nw_s N]
  · show s (dP d) 1 = b.chos d
    rw [s1 1 (by omega), h163]; exact h1
  · show s (dP d) 2 = b.picks d ∧ ∀ i : Int, 0 ≤ i → i < b.picks d → s (dP d + 12) i = b.pick (12 * d + i)
    rw [s1 2 (by omega), sq (dP d + 12) (by omega), h164, h165]; exact h2
  · intro m ht
    rw [s5, N.2.1]
    by_cases g : m = a.many d
    · rw [if_pos g, if_pos ((ix m).mpr g)]
    · rw [if_neg g, if_neg (fun q => g ((ix m).mp q))]; exact h3 m (old m ht g)
  · intro m ht hp m0
    have hp' : b.kind (12 * d + m) = 0 := hp
    rw [N.2.1] at hp'
    rw [N.2.2.1, N.2.2.2.1]
    by_cases g : m = a.many d
    · rw [if_pos ((ix m).mpr g)] at hp'
      rw [if_pos ((ix m).mpr g), if_pos ((ix m).mpr g), g]
      exact sa hp'
    · rw [if_neg (fun q => g ((ix m).mp q))] at hp'
      rw [if_neg (fun q => g ((ix m).mp q)), if_neg (fun q => g ((ix m).mp q)), s6 (dP d + 6) (by omega) m g, s6 (dP d + 7) (by omega) m g]
      exact h4 m (old m ht g) hp' m0
  · intro m ht hk1
    rw [N.2.1] at hk1
    rw [N.2.2.2.2.1]
    by_cases g : m = a.many d
    · rw [if_pos ((ix m).mpr g)] at hk1
      rw [if_pos ((ix m).mpr g), g]
      exact sb hk1
    · rw [if_neg (fun q => g ((ix m).mp q))] at hk1
      rw [if_neg (fun q => g ((ix m).mp q)), s6 (dP d + 8) (by omega) m g]
      exact h5 m (old m ht g) hk1
  · intro m ht hk2
    rw [N.2.1] at hk2
    rw [N.2.2.2.2.2.1]
    by_cases g : m = a.many d
    · rw [if_pos ((ix m).mpr g)] at hk2
      exact absurd hk2 hk
    · rw [if_neg (fun q => g ((ix m).mp q))] at hk2
      rw [if_neg (fun q => g ((ix m).mp q)), s6 (dP d + 9) (by omega) m g]
      exact h6 m (old m ht g) hk2
  · intro m m0 m1
    rw [h136, sq (dP d + 10) (by omega)]; exact h7 m m0 m1
  · show s (dP d + 1) 0 = nmv b d b.moves.toNat ∧ ∀ k : Nat, (k : Int) < b.moves → b.vd k = d → s (dP d + 2) (nmv b d k) = b.vm k ∧ s (dP d + 3) (nmv b d k) = b.vp k ∧ s (dP d + 4) (nmv b d k) = b.vt k
    simp only [nmv_x h141, hmv, h141, h142, h143, h144, sq (dP d + 1) (by omega), sq (dP d + 2) (by omega), sq (dP d + 3) (by omega), sq (dP d + 4) (by omega)]
    exact h13
  · rw [sq (dP d + 13) (by omega)]; exact z1
  · rw [sq (dP d + 14) (by omega)]; exact z2
  · rw [sq (dP d + 15) (by omega)]; exact z3
/-- and of another dimension -/
theorem told_nx (W : WFA a) (C : nwC a d kd pr sg st o) (N : nwB a b d kd pr sg st o) (P : spk a b) {d' : Int} (hd' : inD d') (hne : d' ≠ d) {s : Hp} (H : ICD σ a (dP d') d') (E : ∀ q : Nat, dP d' ≤ q → q ≤ dP d' + 15 → s q = σ q) : told s b (dP d') d' := by
  obtain ⟨hd, hm, hc⟩ := C
  obtain ⟨h0, h1, h2, h3, h4, h5, h6, h7, h13, z1, z2, z3⟩ := told_of W hd' H
  have h136 : b.hid = a.hid := N.2.2.2.2.2.2.1 136 (by omega)
  have h141 : b.vd = a.vd := N.2.2.2.2.2.2.1 141 (by omega)
  have h142 : b.vm = a.vm := N.2.2.2.2.2.2.1 142 (by omega)
  have h143 : b.vp = a.vp := N.2.2.2.2.2.2.1 143 (by omega)
  have h144 : b.vt = a.vt := N.2.2.2.2.2.2.1 144 (by omega)
  have hmv := N.2.2.2.2.2.2.2
  have h163 : b.chos = a.chos := P.1
  have h164 : b.pick = a.pick := P.2.1
  have h165 : b.picks = a.picks := P.2.2
  have old : ∀ m : Int, thr b d' m → thr a d' m := fun m ht => (nw_t N (fun g => hne g.1)).mp ht
  have ne : ∀ m : Int, thr b d' m → ¬ 12 * d' + m = 12 * d + a.many d := fun m ht => by
    have k12 := nw_lt W hd hm N hd' ht
    exact nw_ne W hd hm hd' k12.1 k12.2 (fun g => hne g.1)
  refine ⟨?_, ?_, ?_, ?_, ?_, ?_, ?_, ?_, ?_, ?_, ?_, ?_⟩
  · show s (dP d') 0 = b.many d'
    rw [E (dP d') (by omega) (by omega), nw_d N hne]; exact h0
  · show s (dP d') 1 = b.chos d'
    rw [E (dP d') (by omega) (by omega), h163]; exact h1
  · show s (dP d') 2 = b.picks d' ∧ ∀ i : Int, 0 ≤ i → i < b.picks d' → s (dP d' + 12) i = b.pick (12 * d' + i)
    rw [E (dP d') (by omega) (by omega), E (dP d' + 12) (by omega) (by omega), h164, h165]; exact h2
  · intro m ht
    rw [E (dP d' + 5) (by omega) (by omega), N.2.1, if_neg (ne m ht)]; exact h3 m (old m ht)
  · intro m ht hp m0
    have hp' : b.kind (12 * d' + m) = 0 := hp
    rw [N.2.1, if_neg (ne m ht)] at hp'
    rw [N.2.2.1, N.2.2.2.1, if_neg (ne m ht), if_neg (ne m ht), E (dP d' + 6) (by omega) (by omega), E (dP d' + 7) (by omega) (by omega)]
    exact h4 m (old m ht) hp' m0
  · intro m ht hk1
    rw [N.2.1, if_neg (ne m ht)] at hk1
    rw [N.2.2.2.2.1, if_neg (ne m ht), E (dP d' + 8) (by omega) (by omega)]
    exact h5 m (old m ht) hk1
  · intro m ht hk2
    rw [N.2.1, if_neg (ne m ht)] at hk2
    rw [N.2.2.2.2.2.1, if_neg (ne m ht), E (dP d' + 9) (by omega) (by omega)]
    exact h6 m (old m ht) hk2
  · intro m m0 m1
    rw [h136, E (dP d' + 10) (by omega) (by omega)]; exact h7 m m0 m1
  · show s (dP d' + 1) 0 = nmv b d' b.moves.toNat ∧ ∀ k : Nat, (k : Int) < b.moves → b.vd k = d' → s (dP d' + 2) (nmv b d' k) = b.vm k ∧ s (dP d' + 3) (nmv b d' k) = b.vp k ∧ s (dP d' + 4) (nmv b d' k) = b.vt k
    simp only [nmv_x h141, hmv, h141, h142, h143, h144, E (dP d' + 1) (by omega) (by omega), E (dP d' + 2) (by omega) (by omega), E (dP d' + 3) (by omega) (by omega), E (dP d' + 4) (by omega) (by omega)]
    exact h13
  · rw [E (dP d' + 13) (by omega) (by omega)]; exact z1
  · rw [E (dP d' + 14) (by omega) (by omega)]; exact z2
  · rw [E (dP d' + 15) (by omega) (by omega)]; exact z3
theorem dP_ne {d d' : Int} (hd : inD d) (hd' : inD d') (g : d' ≠ d) : dP d' + 30 ≤ dP d ∨ dP d + 30 ≤ dP d' := by
  unfold dP
  rcases hd with rfl | rfl | rfl <;> rcases hd' with rfl | rfl | rfl <;> simp at g ⊢
/-- D.addKind -/
theorem e_D_addKind {p : Nat} {m k : Int} (h : σ p 0 = m) (m0 : 0 ≤ m) (m1 : m < 12) : f_D_addKind σ p k = some (m, hset (hset σ (p + 5) m k) p 0 (m + 1)) := by
  unfold f_D_addKind
  apply ok_eq
  rw [h, if_pos m1]
  have e1 : (hset σ (p + 5) m k) p 0 = m := by rw [hset_ne (by omega)]; exact h
  rw [e1]
  have e2 : (hset (hset σ (p + 5) m k) p 0 (m + 1)) p 0 = m + 1 := hs_eq
  rw [e2]
  exact ok_grd ⟨m0, m1⟩ (ok_grd (by (first | omega | (unfold r32; omega) | (unfold r64; omega) | (simp only [r32, r64] at *; omega))) (ok_grd (by (first | omega | (unfold r32; omega) | (unfold r64; omega) | (simp only [r32, r64] at *; omega))) (ok_some (by rw [show m + 1 - 1 = m by omega]))))
end
