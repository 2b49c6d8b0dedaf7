/-! ===== calls that change little ===== -/
section
variable {σ : Hp} {a a' : Ab} {n : Nat} {B : Int} {e : Nat}
theorem C_at_0 (W : WFA a) (R : ICR σ a) {d m : Int} (hd : inD d) (ht : thr a d m) : f_C_at σ d m = some (0, a.chos d, hset σ (dP d) 1 m) := by
  have h1 : σ (dP d) 1 = a.chos d := icr_d R hd 1
  unfold f_C_at; apply ok_eq
  refine ok_eqb (nX_y hd) ?_
  rw [if_pos rfl]
  refine ok_eqb (nM_y W hd (icr_d R hd 0) ht) ?_
  rw [if_pos rfl, h1]
  exact ok_some rfl
theorem C_at_1 (R : ICR σ a) {d m : Int} (h : ¬ (inD d ∧ thr a d m)) : f_C_at σ d m = some (1, 0, σ) := by
  unfold f_C_at; apply ok_eq
  by_cases hd : inD d
  · refine ok_eqb (nX_y hd) ?_
    rw [if_pos rfl]
    refine ok_eqb (nM_n (icr_d R hd 0) (fun g => h ⟨hd, g⟩)) ?_
    rw [if_neg (by omega)]
    exact ok_grd (by omega) (ok_some rfl)
  · refine ok_eqb (nX_n hd) ?_
    rw [if_neg (by simp)]
    exact ok_grd (by simp) (ok_some rfl)
theorem at_S {d m : Int} : smem a (hset a 163 d m) := ⟨fun q hq => hset_ne (by omega), by show hset a 163 d m 129 15 = a 129 15; rw [hset_ne (by omega)]⟩
theorem at_V {d m : Int} : sval a (hset a 163 d m) := ⟨at_S, ⟨hset_ne (by omega), hset_ne (by omega), hset_ne (by omega), hset_ne (by omega), by show hset a 163 d m 129 23 = a 129 23; rw [hset_ne (by omega)]⟩, ⟨by show hset a 163 d m 129 16 = a 129 16; rw [hset_ne (by omega)], by show hset a 163 d m 129 17 = a 129 17; rw [hset_ne (by omega)]⟩, fun q h1 h2 => hset_ne (by omega), by show hset a 163 d m 129 29 = a 129 29; rw [hset_ne (by omega)], fun i _ => ⟨by show hset a 163 d m 137 i = a 137 i; rw [hset_ne (by omega)], by show hset a 163 d m 138 i = a 138 i; rw [hset_ne (by omega)], by show hset a 163 d m 139 i = a 139 i; rw [hset_ne (by omega)]⟩, fun s _ => by show hset a 163 d m 140 s = a 140 s; rw [hset_ne (by omega)]⟩
end
