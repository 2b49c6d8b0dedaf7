section
variable {σ : Hp} {a a' b : Ab} {n : Nat} {B : Int} {e : Nat} {d h z m top : Int} {row : Int → Int}
def pkA1 (a : Ab) (d h z m top : Int) : Prop := inD d ∧ (h ≠ 2 → thr a d z) ∧ (top ≠ 0 → 0 ≤ m ∧ m < a.measures)
def pkA2 (h z top : Int) : Prop := (0 ≤ h ∧ h ≤ 2) ∧ (0 ≤ top ∧ top ≤ 12) ∧ (h = 2 → 0 ≤ z ∧ z ≤ 11)
theorem pcB_pkA {T : Int} {row' : Int → Int} : pcB (pkA a row') d row T = pcB a d row T := by
  funext q j
  show (if q = 164 then row j else if q = 165 ∧ j = d then T else (if q = 164 then row' j else a q j)) = if q = 164 then row j else if q = 165 ∧ j = d then T else a q j
  by_cases g : q = 164
  · rw [if_pos g, if_pos g]
  · rw [if_neg g, if_neg g, if_neg g]
theorem MS_pb (W : WFA a) (K : WFW a) (hr : rwW a row) {s : Hp} (M : MS s (pkA a row)) (T : Int) : MS (hset s 165 d T) (pcB a d row T) := by
  have V : Vw (hset s 165 d T) (pcB a d row T) := fun q j hq => by
    by_cases g : q = 165
    · subst g
      rw [hs_if]
      show _ = if (165 : Nat) = 164 then row j else if (165 : Nat) = 165 ∧ j = d then T else a 165 j
      rw [if_neg (show ¬ (165 : Nat) = 164 by omega)]
      by_cases g2 : j = d
      · rw [if_pos g2, if_pos ⟨rfl, g2⟩]
      · rw [if_neg g2, if_neg (fun w => g2 w.2), M.1 165 j hq, pk_q (by omega)]
    · rw [hset_ne g, M.1 q j hq]
      by_cases g2 : q = 164
      · subst g2
        exact (show pkA a row 164 j = row j from if_pos rfl).trans (show pcB a d row T 164 j = row j from if_pos rfl).symm
      · rw [pk_q g2, pb_q g2 g]
  have S := pb_V (a := pkA a row) (d := d) (row := row) (k := T)
  rw [pcB_pkA] at S
  exact MS_s (pkA_W W hr) (pkA_K K) S M V (hset_ne (by omega)) (hset_ne (by omega)) (by rw [hset_ne (by omega)])
/-- what is picked then -/
def pkT (a : Ab) (d h z m top : Int) (v : Int) (b : Ab) : Prop := ∃ row : Int → Int, b = pcB a d row v ∧ 0 ≤ v ∧ v ≤ nC (askC a d h z) (a.many d).toNat ∧ ((top = 0 ∧ v = nC (askC a d h z) (a.many d).toNat ∧ ∀ i : Int, 0 ≤ i → i < v → row (12 * d + i) = pkR a d (askC a d h z) (a.many d).toNat (12 * d + i)) ∨ (top ≠ 0 ∧ ∃ (c : Int) (yv cr : Int → Int), v = min c top ∧ Arr (mV a m d) (stP a m d yv (nC (askC a d h z) (a.many d).toNat)) cr c ∧ ∀ i : Int, 0 ≤ i → i < v → row (12 * d + i) = cr i))
theorem op_pick (H : J σ a n B) (hB : B ≤ 100000) (d h z m top : Int) : OPT σ a n B e (fun code v b => TT a (pkA1 a d h z m top ∧ pkA2 h z top ∧ (h ≠ 2 → isP a d z)) (pkT a d h z m top) code v b) (f_L_pick σ e d h z m top) := by
  obtain ⟨W, K, V, I, VV, h1, h2⟩ := id H
  obtain ⟨R, IK, IW, I9⟩ := IC_r I
  by_cases A1 : pkA1 a d h z m top
  · by_cases A2 : pkA2 h z top
    · by_cases A3 : h ≠ 2 → isP a d z
      · have hd := A1.1
        have hd' := inD_b hd
        have mb := many_b W hd
        have hok : hOk a d h z := ⟨hd, by have := A2.1; omega, fun q => ⟨A1.2.1 q, A3 q⟩, A2.2.2⟩
        obtain ⟨r, er, r0, T, rT, E, E2, e2, E4, I9', yv, ⟨N01, ny, np⟩, D⟩ := c_pick0 H hB A1 A2 A3
        have rw0 : rwW a (pkR a d (askC a d h z) (a.many d).toNat) := pkR_w W hd _ (by omega)
        -- the reference's first rows
        have fin : ∀ row : Int → Int, pbC a d row T → (∀ i : Int, 0 ≤ i → i < T → r.2.2 (dP d + 12) i = row (12 * d + i)) → pkT a d h z m top T (pcB a d row T) → OPT σ a n B e (fun code v b => TT a (pkA1 a d h z m top ∧ pkA2 h z top ∧ (h ≠ 2 → isP a d z)) (pkT a d h z m top) code v b) (f_L_pick σ e d h z m top) := by
          intro row C er2 hT
          refine ⟨0, T, pcB a d row T, ⟨pb_W W C, WFW_s K pb_D pb_S, by rw [show Ab.hits (pcB a d row T) = a.hits from pb_j 41]; exact h1, by rw [show Ab.hits (pcB a d row T) = a.hits from pb_j 41]; omega⟩, TT_0 hT, ?_⟩
          · unfold f_L_pick
            refine L_ok (pb_W W C) ⟨r, er, r0, rT, fun q q1 q2 => E4 q (by omega), ?_⟩
            exact pick_fin H C E E2 e2 er2 E4 I9'
        rcases D with ⟨t0, tN, tr⟩ | ⟨t0, c, tc, c12, A⟩
        · refine fin (pkR a d (askC a d h z) (a.many d).toNat) ⟨hd, by omega, by omega, fun i i0 i1 => by rw [np i i0 (by omega)]; exact ny i i0 (by omega), fun d' i hd2 hne i0 i1 => ?_⟩ (fun i i0 i1 => by rw [tr i i0 i1, np i i0 (by omega)]) ⟨_, rfl, by omega, by omega, Or.inl ⟨t0, tN, fun _ _ _ => rfl⟩⟩
          have pb := pck_b W hd2
          have hd2' := inD_b hd2
          refine pkR_o _ (fun y hy => ?_)
          have nb := nC_b (askC a d h z) y
          have := inD_b hd2
          omega
        · have hm := A1.2.2 t0
          have hcr : ∀ i : Int, 0 ≤ i → i < c → thr a d (r.2.2 (dP d + 12) i) ∧ isP a d (r.2.2 (dP d + 12) i) := fun i i0 i1 => by
            obtain ⟨⟨k, k0, k1, k2⟩, _⟩ := A.2.1 i i0 i1
            rw [← k2]; exact ny k k0 k1
          have c0 : 0 ≤ c := A.1
          have t12 := A2.2.1
          refine fin (tpR d (pkR a d (askC a d h z) (a.many d).toNat) (r.2.2 (dP d + 12)) T) ⟨hd, by omega, by omega, fun i i0 i1 => by rw [tpR_i ⟨i0, i1⟩]; exact hcr i i0 (by omega), fun d' i hd2 hne i0 i1 => ?_⟩ (fun i i0 i1 => (tpR_i ⟨i0, i1⟩).symm) ⟨_, rfl, by omega, by omega, Or.inr ⟨t0, c, yv, _, tc, A, fun i i0 i1 => tpR_i ⟨i0, i1⟩⟩⟩
          have pb := pck_b W hd2
          have hd2' := inD_b hd2
          rw [tpR_o (by omega)]
          refine pkR_o _ (fun y hy => ?_)
          have nb := nC_b (askC a d h z) y
          omega
      · refine opt_er H 3 0 (TT_e ⟨by omega, by omega⟩ (fun q => A3 q.2.2)) ?_
        · unfold f_L_pick
          refine ok_eqb (c_pick_e H (cd := 3) (Or.inr (Or.inr ⟨A1, A2, A3, rfl⟩))) ?_
          (rw [if_neg (by simp), if_neg (by simp), if_neg (by simp), if_pos rfl]; exact ok_some (LR_er W I (by omega) _ _ (by omega)))
    · refine opt_er H 2 0 (TT_e ⟨by omega, by omega⟩ (fun q => A2 q.2.1)) ?_
      · unfold f_L_pick
        refine ok_eqb (c_pick_e H (cd := 2) (Or.inr (Or.inl ⟨A1, A2, rfl⟩))) ?_
        (rw [if_neg (by simp), if_neg (by simp), if_pos rfl]; exact ok_some (LR_er W I (by omega) _ _ (by omega)))
  · refine opt_er H 1 0 (TT_e ⟨by omega, by omega⟩ (fun q => A1 q.1)) ?_
    · unfold f_L_pick
      refine ok_eqb (c_pick_e H (cd := 1) (Or.inl ⟨A1, rfl⟩)) ?_
      (rw [if_neg (by simp), if_pos rfl]; exact ok_some (LR_er W I (by omega) _ _ (by omega)))
end
