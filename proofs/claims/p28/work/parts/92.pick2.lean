section
variable {σ : Hp} {a a' b : Ab} {n : Nat} {B : Int} {e : Nat} {d h z : Int}
/-- all but the picked members -/
def pas (σ s : Hp) (p : Nat) : Prop := (∀ q : Nat, q ≠ p → q ≠ p + 12 → s q = σ q) ∧ ∀ j : Int, j ≠ 2 → s p j = σ p j
theorem pas_R (W : WFA a) {p : Nat} {s : Hp} (E : pas σ s p) (H : ICD σ a p d) : ∀ k : Nat, k ≠ 2 → icd s a p d k := by
  have mb := many_b W iD0
  have X := E.1
  intro k hk
  match k, hk with
  | 0, _ => show s p 0 = a.many d; rw [E.2 0 (by omega)]; exact H 0
  | 1, _ => show s p 1 = a.chos d; rw [E.2 1 (by omega)]; exact H 1
  | 2, hk => exact absurd rfl hk
  | 3, _ => exact icd_c3 (X _ (by omega) (by omega)) (H 3)
  | 4, _ => exact icd_c4 (X _ (by omega) (by omega)) (X _ (by omega) (by omega)) (H 4)
  | 5, _ => exact icd_c5 (X _ (by omega) (by omega)) (H 5)
  | 6, _ => exact icd_c6 (X _ (by omega) (by omega)) (H 6)
  | 7, _ => exact icd_c7 (X _ (by omega) (by omega)) (H 7)
  | 8, _ => exact icd_c8 (X _ (by omega) (by omega)) (H 8)
  | 9, _ => exact icd_c9 (X _ (by omega) (by omega)) (H 9)
  | 10, _ => exact icd_c10 (X _ (by omega) (by omega)) (H 10)
  | 11, _ => exact icd_c11 (X _ (by omega) (by omega)) (H 11)
  | 12, _ => exact icd_c12 (by omega) (fun i hi => X _ (by omega) (by omega)) (H 12)
  | 13, _ => exact icd_c13 (X _ (by omega) (by omega)) (X _ (by omega) (by omega)) (X _ (by omega) (by omega)) (X _ (by omega) (by omega)) (H 13)
  | _ + 14, _ => trivial
/-- the class's rows of picked members -/
def pkd (s : Hp) (p : Nat) (c : Int → Int) (k : Nat) : Prop := s p 2 = nC c k ∧ ∀ y : Nat, y < k → c y ≠ 0 → s (p + 12) (nC c y) = y
theorem c_pickAll (W : WFA a) (R : ICR σ a) (H : hOk a d h z) : Okk (f_D_pickAll σ (dP d) h z) fun s => pas σ s (dP d) ∧ pkd s (dP d) (askC a d h z) (a.many d).toNat := by
  have hd := H.1
  have mb := many_b W hd
  have L : ∀ (F k : Nat) (s : Hp), (k : Int) ≤ a.many d → a.many d - k < F → pas σ s (dP d) → pkd s (dP d) (askC a d h z) k → Okk (f_D_pickAll_7 (dP d) h z F k s) fun r => pas σ r.2 (dP d) ∧ pkd r.2 (dP d) (askC a d h z) (a.many d).toNat := by
    intro F
    induction F with
    | zero => intro k s k1 hF; omega
    | succ F ih =>
      intro k s k1 hF E P
      have Rs := pas_R W E (icr_d R hd)
      have e0 : s (dP d) 0 = a.many d := Rs 0 (by omega)
      rw [f_D_pickAll_7, e0]
      refine ok_ite (fun g => ok_some ⟨E, by rw [show (a.many d).toNat = k by omega]; exact P⟩) (fun g => ok_grd (by omega) ?_)
      have ht : thr a d k := ⟨by omega, by omega⟩
      have nb := nC_b (askC a d h z) k
      have e15 : s (dP d + 15) k = bI (seeP a d k) := (show ∀ m : Int, thr a d m → s (dP d + 15) m = bI (seeP a d m) from Rs 10 (by omega)) k ht
      have e5 : s (dP d + 5) k = a.kind (12 * d + k) := (show ∀ m : Int, thr a d m → s (dP d + 5) m = a.kind (12 * d + m) from Rs 3 (by omega)) k ht
      have skip : askC a d h z k = 0 → pkd s (dP d) (askC a d h z) (k + 1) := fun hz => ⟨by rw [nC_n hz]; exact P.1, fun y hy hc => P.2 y (by
        rcases Nat.lt_succ_iff_lt_or_eq.mp hy with q | q
        · exact q
        · rw [q] at hc; exact absurd hz hc) hc⟩
      refine ok_call (P := fun u => pas σ u (dP d) ∧ pkd u (dP d) (askC a d h z) (k + 1)) ?_ ?_
      · rw [e15]
        by_cases hs : seeP a d k
        · rw [bI_t hs, if_neg (by omega)]
          refine ok_eqb (e_D_isPlain s (dP d) k) ?_
          by_cases hp : isP a d k
          · have hp' : a.kind (12 * d + k) = 0 := hp
            rw [e0, e5, bI_t ⟨by omega, by omega, by omega, hp'⟩, if_neg (by omega)]
            refine ok_eqb (c_isAsked W Rs H ht hp hs) ?_
            refine ok_ite (fun q => ok_some ⟨E, skip q⟩) (fun q => ?_)
            have e2 : s (dP d) 2 = nC (askC a d h z) k := P.1
            have e2' : (hset s (dP d + 12) (nC (askC a d h z) k) k) (dP d) 2 = nC (askC a d h z) k := by rw [hset_ne (by omega)]; exact e2
            rw [e2, e2']
            refine ok_grd (by omega) (ok_grd (by (first | omega | (unfold r32; omega) | (unfold r64; omega) | (simp only [r32, r64] at *; omega))) (ok_some ⟨⟨fun r r1 r2 => by rw [hset_ne r1, hset_ne r2]; exact E.1 r r1 r2, fun j hj => by rw [hs_nj hj, hset_ne (by omega)]; exact E.2 j hj⟩, ?_, fun y hy hc => ?_⟩))
            · rw [hs_eq, nC_y q]
            · rw [hset_ne (by omega), hs_if]
              by_cases hyk : y = k
              · rw [if_pos (by rw [hyk]), hyk]
              · have hlt := nC_le (askC a d h z) (y + 1) (k - (y + 1))
                rw [show y + 1 + (k - (y + 1)) = k by omega, nC_y hc] at hlt
                rw [if_neg (by omega)]
                exact P.2 y (by omega) hc
          · rw [e0, e5, bI_f (fun q => hp q.2.2.2), if_pos rfl]
            exact ok_some ⟨E, skip (bI_f (fun w => hp w.1))⟩
        · rw [bI_f hs, if_pos rfl]
          exact ok_some ⟨E, skip (bI_f (fun w => hs w.2.1))⟩
      · rintro u ⟨u1, u2⟩
        refine ok_grd (by (first | omega | (unfold r32; omega) | (unfold r64; omega) | (simp only [r32, r64] at *; omega))) ?_
        rw [show ((k : Int) + 1) = ((k + 1 : Nat) : Int) by omega]
        exact ih (k + 1) u (by omega) (by omega) u1 u2
  unfold f_D_pickAll
  refine ok_call (L zFuel 0 (hset σ (dP d) 2 0) (by omega) (by unfold zFuel; omega) ⟨fun q q1 _ => hset_ne q1, fun j hj => hs_nj hj⟩ ⟨hs_eq, fun y hy => by omega⟩) (fun r hr => ok_some hr)
/-! the reference's row -/
def pkA (a : Ab) (row : Int → Int) : Ab := fun q j => if q = 164 then row j else a q j
theorem pk_q {row : Int → Int} {q : Nat} (h : q ≠ 164) : pkA a row q = a q := by funext j; exact if_neg h
theorem pk_S {row : Int → Int} : smem a (pkA a row) := ⟨fun q hq => pk_q (by omega), by show pkA a row 129 15 = a 129 15; rw [pk_q (by omega)]⟩
noncomputable def pkR (a : Ab) (d : Int) (c : Int → Int) : Nat → Int → Int
  | 0 => a 164
  | k + 1 => fun j => if c k ≠ 0 ∧ j = 12 * d + nC c k then k else pkR a d c k j
theorem askP_c (S : smem a a') (d h z y : Int) : askP a' d h z y ↔ askP a d h z y := by
  have P := sm_p S
  have h130 : a'.many = a.many := S.1 130 (by omega)
  have h131 : a'.kind = a.kind := S.1 131 (by omega)
  have lf : leafP a' d y ↔ leafP a d y := by simp only [leafP, isP, h130, h131, now_c P]
  have sp : seeP a' d y ↔ seeP a d y := seeP_c P (S.1 136 (by omega)) (S.1 134 (by omega)) (by rw [h131])
  unfold askP
  rw [lf, sp, now_c P, dep_c P, wt_c P (S.1 133 (by omega))]
  simp only [isP, h131]
theorem askC_c (S : smem a a') (d h z : Int) : askC a' d h z = askC a d h z := by
  funext y; exact bI_iff (askP_c S d h z y)
theorem hOk_c (S : smem a a') (H : hOk a d h z) : hOk a' d h z := by
  have h130 : a'.many = a.many := S.1 130 (by omega)
  have h131 : a'.kind = a.kind := S.1 131 (by omega)
  unfold hOk at H ⊢
  simp only [thr, isP, h130, h131] at H ⊢
  exact H
end
