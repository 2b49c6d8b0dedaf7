section
variable {σ : Hp} {a a' b : Ab} {n : Nat} {B : Int} {e : Nat} {d h z : Int}
theorem pkA_W (W : WFA a) {row : Int → Int} (hr : ∀ d i : Int, inD d → 0 ≤ i → i < a.picks d → thr a d (row (12 * d + i)) ∧ isP a d (row (12 * d + i))) : WFA (pkA a row) := by
  have S := pk_S (a := a) (row := row)
  have M : smea a (pkA a row) := ⟨pk_q (by omega), pk_q (by omega), pk_q (by omega), pk_q (by omega), by show pkA a row 129 23 = a 129 23; rw [pk_q (by omega)]⟩
  have F : sfac a (pkA a row) := ⟨fun q h1 h2 => pk_q (by omega), by show pkA a row 129 29 = a 129 29; rw [pk_q (by omega)], by show pkA a row 129 35 = a 129 35; rw [pk_q (by omega)]⟩
  have h130 : Ab.many (pkA a row) = a.many := S.1 130 (by omega)
  have h131 : Ab.kind (pkA a row) = a.kind := S.1 131 (by omega)
  refine WFA_by W S (wfa_8 W (by show pkA a row 129 16 = a 129 16; rw [pk_q (by omega)]) (by show pkA a row 129 17 = a 129 17; rw [pk_q (by omega)])) M F (wfa_k W S M.2.2.2.2 (pk_q (by omega)) (by show pkA a row 129 40 = a 129 40; rw [pk_q (by omega)])) (fun k hk => ?_) (by show pkA a row 140 36 = a 140 36; rw [pk_q (by omega)])
  rcases hk with rfl | rfl
  · have h163 : Ab.chos (pkA a row) = a.chos := pk_q (by omega)
    have := W 15; simp only [wfa, thr, h130, h163] at this ⊢; exact this
  · have h165 : Ab.picks (pkA a row) = a.picks := pk_q (by omega)
    have h164 : Ab.pick (pkA a row) = row := by
      funext j
      show (if (164 : Nat) = 164 then row j else a 164 j) = row j
      rw [if_pos rfl]
    intro d hd
    have pb := (show ∀ d : Int, inD d → 0 ≤ a.picks d ∧ a.picks d ≤ 12 ∧ ∀ i : Int, 0 ≤ i → i < a.picks d → thr a d (a.pick (12 * d + i)) ∧ isP a d (a.pick (12 * d + i)) from W 16) d hd
    simp only [thr, isP, h130, h131, h164, h165]
    exact ⟨pb.1, pb.2.1, fun i i0 i1 => hr d i hd i0 i1⟩
theorem pkR_w (W : WFA a) (hd : inD d) : ∀ k : Nat, (k : Int) ≤ a.many d → ∀ d' i : Int, inD d' → 0 ≤ i → i < a.picks d' → thr a d' (pkR a d (askC a d h z) k (12 * d' + i)) ∧ isP a d' (pkR a d (askC a d h z) k (12 * d' + i))
  | 0, _, d', i, hd', i0, i1 => by
    have pb := (show ∀ d : Int, inD d → 0 ≤ a.picks d ∧ a.picks d ≤ 12 ∧ ∀ i : Int, 0 ≤ i → i < a.picks d → thr a d (a.pick (12 * d + i)) ∧ isP a d (a.pick (12 * d + i)) from W 16) d' hd'
    exact pb.2.2 i i0 i1
  | k + 1, hk, d', i, hd', i0, i1 => by
    have mb := many_b W hd
    have pb := (show ∀ d : Int, inD d → 0 ≤ a.picks d ∧ a.picks d ≤ 12 ∧ ∀ i : Int, 0 ≤ i → i < a.picks d → thr a d (a.pick (12 * d + i)) ∧ isP a d (a.pick (12 * d + i)) from W 16) d' hd'
    have nb := nC_b (askC a d h z) k
    show thr a d' (if askC a d h z k ≠ 0 ∧ 12 * d' + i = 12 * d + nC (askC a d h z) k then (k : Int) else pkR a d (askC a d h z) k (12 * d' + i)) ∧ isP a d' (if askC a d h z k ≠ 0 ∧ 12 * d' + i = 12 * d + nC (askC a d h z) k then (k : Int) else pkR a d (askC a d h z) k (12 * d' + i))
    by_cases g : askC a d h z k ≠ 0 ∧ 12 * d' + i = 12 * d + nC (askC a d h z) k
    · rw [if_pos g]
      have ed : d' = d := by omega
      have ha : askP a d h z k := Classical.byContradiction (fun q => g.1 (bI_f q))
      rw [ed]
      exact ⟨⟨by omega, by omega⟩, ha.1⟩
    · rw [if_neg g]
      exact pkR_w W hd k (by omega) d' i hd' i0 i1
theorem pkR_v {c : Int → Int} : ∀ k y : Nat, y < k → c y ≠ 0 → pkR a d c k (12 * d + nC c y) = y
  | 0, y, hy, _ => by omega
  | k + 1, y, hy, hc => by
    show (if c k ≠ 0 ∧ 12 * d + nC c y = 12 * d + nC c k then (k : Int) else pkR a d c k (12 * d + nC c y)) = y
    by_cases hk : y = k
    · rw [if_pos ⟨by rw [← hk]; exact hc, by rw [hk]⟩, hk]
    · have hlt := nC_le c (y + 1) (k - (y + 1))
      rw [show y + 1 + (k - (y + 1)) = k by omega, nC_y hc] at hlt
      rw [if_neg (by omega)]
      exact pkR_v k y (by omega) hc
theorem pkR_o {c : Int → Int} {j : Int} : ∀ k : Nat, (∀ y : Nat, y < k → j ≠ 12 * d + nC c y) → pkR a d c k j = a 164 j
  | 0, _ => rfl
  | k + 1, h => by
    show (if c k ≠ 0 ∧ j = 12 * d + nC c k then (k : Int) else pkR a d c k j) = a 164 j
    rw [if_neg (fun g => h k (by omega) g.2)]
    exact pkR_o k (fun y hy => h y (by omega))
end
