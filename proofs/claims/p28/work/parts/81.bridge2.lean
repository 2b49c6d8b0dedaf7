section
variable {σ : Hp} {a a' b : Ab} {n : Nat} {B : Int} {e : Nat} {d : Int}
theorem c_addBridge (W : WFA a) (R : ICR σ a) (hd : inD d) (hm : a.many d < 12) (s pr sg o : Int) : Okk (f_D_addBridge σ (dP d) s) fun r => r.1 = a.many d ∧ nwS σ r.2 (dP d) (a.many d) 1 pr sg s o ∧ (∀ q : Nat, q < dP d ∨ dP d + 29 < q → r.2 q = σ q) ∧ r.2 (dP d + 11) = σ (dP d + 11) := by
  have mb := many_b W hd
  have e0 : σ (dP d) 0 = a.many d := icr_d R hd 0
  unfold f_D_addBridge
  refine ok_eqb (e_D_addKind (k := 1) e0 (by omega) hm) ?_
  dsimp only
  have e1 : (hset (hset σ (dP d + 5) (a.many d) 1) (dP d) 0 (a.many d + 1)) (dP d) 0 = a.many d + 1 := hs_eq
  refine ok_eqb (e_D_has _ (dP d) (a.many d)) ?_
  rw [e1, bI_t ⟨by omega, by omega, hm⟩, if_neg (by omega)]
  refine ok_bind (ok_grd ⟨by omega, hm⟩ (ok_some (ok_some ⟨rfl, ?_, fun q hq => ?_, ?_⟩)))
  · dsimp only
    generalize hs : hset (hset (hset σ (dP d + 5) (a.many d) 1) (dP d) 0 (a.many d + 1)) (dP d + 8) (a.many d) s = u
    have E : ∀ q : Nat, q ≠ dP d → q ≠ dP d + 5 → q ≠ dP d + 8 → u q = σ q := fun q q1 q2 q3 => by rw [← hs, hset_ne q3, hset_ne q1, hset_ne q2]
    refine ⟨?_, fun j hj => ?_, fun j => ?_, fun q hq j hj => ?_, fun g => absurd g (by omega), fun _ => ?_, fun g => absurd g (by omega), fun q hq => E q (by omega) (by omega) (by omega)⟩
    · rw [← hs, hset_ne (by omega)]; exact hs_eq
    · rw [← hs, hset_ne (by omega), hs_nj hj, hset_ne (by omega)]
    · rw [← hs, hset_ne (by omega), hset_ne (by omega), hs_if]
    · by_cases q8 : q = dP d + 8
      · rw [← hs, q8, hs_nj hj, hset_ne (by omega), hset_ne (by omega)]
      · rw [E q (by omega) (by omega) q8]
    · rw [← hs]; exact hs_eq
  · dsimp only; rw [hset_ne (by omega), hset_ne (by omega), hset_ne (by omega)]
  · dsimp only; rw [hset_ne (by omega), hset_ne (by omega), hset_ne (by omega)]
end
