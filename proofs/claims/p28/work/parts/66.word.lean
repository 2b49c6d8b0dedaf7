/-! ===== word ===== -/
section
variable {σ : Hp} {a a' : Ab} {n : Nat} {B : Int} {e : Nat}
/-- the draft with a word more -/
def wdA (a : Ab) (w x y : Int) : Ab := hset (hset (hset (hset a 137 (360 + a.len 36) w) 138 (360 + a.len 36) x) 139 (360 + a.len 36) y) 140 36 (a.len 36 + 1)
section
variable {w x y : Int}
theorem wd_q {q : Nat} (h : q < 137 ∨ 140 < q) : wdA a w x y q = a q := by unfold wdA; rw [hset_ne (by omega), hset_ne (by omega), hset_ne (by omega), hset_ne (by omega)]
theorem wd_w (i : Int) : Ab.what (wdA a w x y) i = if i = 360 + a.len 36 then w else a.what i := by show wdA a w x y 137 i = _; unfold wdA; rw [hset_ne (by omega), hset_ne (by omega), hset_ne (by omega)]; exact hs_if
theorem wd_o (i : Int) : Ab.one (wdA a w x y) i = if i = 360 + a.len 36 then x else a.one i := by
  show wdA a w x y 138 i = _; unfold wdA; rw [hset_ne (by omega), hset_ne (by omega), hs_if]
  by_cases h : i = 360 + a.len 36
  · rw [if_pos h, if_pos h]
  · rw [if_neg h, if_neg h, hset_ne (by omega)]; rfl
theorem wd_t (i : Int) : Ab.two (wdA a w x y) i = if i = 360 + a.len 36 then y else a.two i := by
  show wdA a w x y 139 i = _; unfold wdA; rw [hset_ne (by omega), hs_if]
  by_cases h : i = 360 + a.len 36
  · rw [if_pos h, if_pos h]
  · rw [if_neg h, if_neg h, hset_ne (by omega), hset_ne (by omega)]; rfl
theorem wd_l (s : Int) : Ab.len (wdA a w x y) s = if s = 36 then a.len 36 + 1 else a.len s := by
  show wdA a w x y 140 s = _; unfold wdA; rw [hs_if]
  by_cases h : s = 36
  · rw [if_pos h, if_pos h]
  · rw [if_neg h, if_neg h, hset_ne (by omega), hset_ne (by omega), hset_ne (by omega)]; rfl
theorem wd_S : smem a (wdA a w x y) := ⟨fun q hq => wd_q (by omega), by show wdA a w x y 129 15 = a 129 15; rw [wd_q (by omega)]⟩
theorem wd_V (hl : 0 ≤ a.len 36) : sval a (wdA a w x y) := ⟨wd_S, ⟨wd_q (by omega), wd_q (by omega), wd_q (by omega), wd_q (by omega), by show wdA a w x y 129 23 = a 129 23; rw [wd_q (by omega)]⟩, ⟨by show wdA a w x y 129 16 = a 129 16; rw [wd_q (by omega)], by show wdA a w x y 129 17 = a 129 17; rw [wd_q (by omega)]⟩, fun q h1 h2 => wd_q (by omega), by show wdA a w x y 129 29 = a 129 29; rw [wd_q (by omega)], fun i hi => ⟨by rw [wd_w, if_neg (by omega)], by rw [wd_o, if_neg (by omega)], by rw [wd_t, if_neg (by omega)]⟩, fun s hs => by rw [wd_l, if_neg (by omega)]⟩
theorem wd_p (hl : 0 ≤ a.len 36) (s : Int) (hs : s < 36) : ∀ k : Nat, k ≤ 10 → pilF (wdA a w x y) s k = pilF a s k
  | 0, _ => rfl
  | k + 1, h => by
    simp only [pilF, wd_p hl s hs k (by omega), wd_w, if_neg (show ¬ 10 * s + (k : Int) = 360 + a.len 36 by omega)]
theorem wd_p36 : ∀ k : Nat, (k : Int) ≤ a.len 36 → pilF (wdA a w x y) 36 k = pilF a 36 k
  | 0, _ => rfl
  | k + 1, h => by
    simp only [pilF, wd_p36 k (by omega), wd_w, if_neg (show ¬ 10 * 36 + (k : Int) = 360 + a.len 36 by omega)]
end
theorem e_F_hasRoomFor {P w : Int} (hP : 0 ≤ P) : f_F_hasRoomFor σ P w = some (bI (σ P.toNat 0 < 10 ∧ (w ≤ 2 ∨ 2 ≤ σ P.toNat 1))) := by
  unfold f_F_hasRoomFor; apply ok_eq
  refine ok_grd hP (ok_bind (ok_ite (fun g => ok_some (ok_grd (by omega) (ok_some (bI_f (by omega)).symm))) (fun g => ok_ite (fun g2 => ok_some (ok_grd (by omega) (ok_some (bI_t (by omega)).symm))) (fun g2 => ok_grd hP (ok_ite (fun g3 => ok_some (ok_grd (by omega) (ok_some (bI_f (by omega)).symm))) (fun g3 => ok_some (ok_grd (by omega) (ok_some (bI_t (by omega)).symm))))))))
theorem e_F_put {P w x y : Int} (hP : 0 ≤ P) (h10 : 0 ≤ σ P.toNat 0 ∧ σ P.toNat 0 < 10) (hp : -100 ≤ σ P.toNat 1 ∧ σ P.toNat 1 ≤ 100) : f_F_put σ P w x y = some (hset (hset (hset (hset (hset σ (P.toNat + 1) (σ P.toNat 0) w) (P.toNat + 2) (σ P.toNat 0) x) (P.toNat + 3) (σ P.toNat 0) y) P.toNat 0 (σ P.toNat 0 + 1)) P.toNat 1 (σ P.toNat 1 + (if 2 < w then -1 else 1))) := by
  unfold f_F_put; apply ok_eq
  generalize P.toNat = p at *
  generalize hc : σ p 0 = c at *
  generalize hd : σ p 1 = d at *
  have e1 : (hset σ (p + 1) c w) p 0 = c := by rw [hset_ne (by omega)]; exact hc
  rw [e1]
  have e2 : (hset (hset σ (p + 1) c w) (p + 2) c x) p 0 = c := by rw [hset_ne (by omega)]; exact e1
  rw [e2]
  have e3 : (hset (hset (hset σ (p + 1) c w) (p + 2) c x) (p + 3) c y) p 0 = c := by rw [hset_ne (by omega)]; exact e2
  rw [e3]
  have e4 : (hset (hset (hset (hset σ (p + 1) c w) (p + 2) c x) (p + 3) c y) p 0 (c + 1)) p 1 = d := by rw [hs_nj (by omega), hset_ne (by omega), hset_ne (by omega), hset_ne (by omega)]; exact hd
  rw [e4, if_neg (by omega)]
  refine ok_grd hP (ok_bind (ok_grd hP (ok_grd hP (ok_grd (by omega) (ok_grd hP (ok_grd hP (ok_grd (by omega) (ok_grd hP (ok_grd hP (ok_grd (by omega) (ok_grd hP (ok_grd (by (first | omega | (unfold r32; omega) | (unfold r64; omega) | (simp only [r32, r64] at *; omega))) (ok_grd hP (ok_grd hP ?_))))))))))))))
  refine ok_call (P := fun r => r = if 2 < w then -1 else 1) (ok_ite (fun g => ok_some (if_pos g).symm) (fun g => ok_some (if_neg g).symm)) ?_
  rintro r rfl
  have hr : -1 ≤ (if 2 < w then -1 else 1 : Int) ∧ (if 2 < w then -1 else 1 : Int) ≤ 1 := by
    by_cases g : 2 < w
    · rw [if_pos g]; omega
    · rw [if_neg g]; omega
  exact ok_grd (by (first | omega | (unfold r32; omega) | (unfold r64; omega) | (simp only [r32, r64] at *; omega))) (ok_grd hP (ok_some (ok_some rfl)))
/-- what a word may be -/
def wdOk (w x y : Int) : Prop := (0 ≤ w ∧ w ≤ 6) ∧ (w = 0 → -1000000 ≤ x ∧ x ≤ 1000000) ∧ (w = 1 ∨ w = 2 → 0 ≤ x ∧ x ≤ 11) ∧ (w = 1 → 0 ≤ y ∧ y ≤ 11)
end
