/-! ===== member ===== -/
section
variable {σ : Hp} {a a' b : Ab} {n : Nat} {B : Int} {e : Nat} {d p w : Int} {row : Int → Int} {c : Int}
def mbX (a : Ab) (d p w : Int) : Ab := nwA a d 0 p w (a.set (12 * d + a.many d)) (a.order (12 * d + a.many d))
def mbA (a : Ab) (d p w : Int) (row : Int → Int) (c : Int) : Ab := frs (plA (mbX a d p w) row c)
theorem mb_x {q : Nat} (h : q ≠ 129) (h2 : q ≠ 145) : mbA a d p w row c q = mbX a d p w q := by unfold mbA; rw [frs_q h, plA_q h2]
theorem mb_q {q : Nat} (h : q ≠ 129) (h2 : q ≠ 145) (h3 : q < 130 ∨ 135 < q) : mbA a d p w row c q = a q := by rw [mb_x h h2]; exact nw_q h3
theorem mb_j {j : Int} (h : j ≠ 40) : mbA a d p w row c 129 j = a 129 j := by unfold mbA; rw [frs_j h, plA_q (by omega)]; unfold mbX; rw [nw_q (by omega)]
theorem mx_B : nwB a (mbX a d p w) d 0 p w (a.set (12 * d + a.many d)) (a.order (12 * d + a.many d)) := ⟨nw_many, nw_kind, nw_par, nw_sign, nw_set, nw_order, fun q hq => nw_q (by omega), by unfold Ab.moves mbX; rw [nw_q (by omega)]⟩
theorem mb_B : nwB a (mbA a d p w row c) d 0 p w (a.set (12 * d + a.many d)) (a.order (12 * d + a.many d)) := by
  obtain ⟨n1, n2, n3, n4, n5, n6, n7, n8⟩ := mx_B (a := a) (d := d) (p := p) (w := w)
  refine ⟨fun j => ?_, fun j => ?_, fun j => ?_, fun j => ?_, fun j => ?_, fun j => ?_, fun q hq => mb_q (by omega) (by omega) (by omega), mb_j (by omega)⟩
  · rw [← n1 j]; exact congrFun (mb_x (q := 130) (by omega) (by omega)) j
  · rw [← n2 j]; exact congrFun (mb_x (q := 131) (by omega) (by omega)) j
  · rw [← n3 j]; exact congrFun (mb_x (q := 132) (by omega) (by omega)) j
  · rw [← n4 j]; exact congrFun (mb_x (q := 133) (by omega) (by omega)) j
  · rw [← n5 j]; exact congrFun (mb_x (q := 134) (by omega) (by omega)) j
  · rw [← n6 j]; exact congrFun (mb_x (q := 135) (by omega) (by omega)) j
theorem mb_M : smea a (mbA a d p w row c) := ⟨mb_q (by omega) (by omega) (by omega), mb_q (by omega) (by omega) (by omega), mb_q (by omega) (by omega) (by omega), mb_q (by omega) (by omega) (by omega), mb_j (by omega)⟩
theorem mb_F : sfac a (mbA a d p w row c) := ⟨fun q h1 h2 => mb_q (by omega) (by omega) (by omega), mb_j (by omega), mb_j (by omega)⟩
theorem mb_D : swd a (mbA a d p w row c) := ⟨mb_q (by omega) (by omega) (by omega), mb_q (by omega) (by omega) (by omega), mb_q (by omega) (by omega) (by omega), mb_q (by omega) (by omega) (by omega)⟩
theorem mb_P : spk a (mbA a d p w row c) := ⟨mb_q (by omega) (by omega) (by omega), mb_q (by omega) (by omega) (by omega), mb_q (by omega) (by omega) (by omega)⟩
theorem wT_of (h0 : wfa b 0) (h3 : wfa b 3) : WT b := by
  have g0 := (show ∀ d : Int, inD d → 1 ≤ b.many d ∧ b.many d ≤ 12 from h0) 0 iD0
  refine ⟨g0.1, g0.2, fun m ht hp m0 => ?_⟩
  have g3 := (show ∀ d m : Int, inD d → thr b d m → isP b d m → 0 < m → 0 ≤ b.par (12 * d + m) ∧ b.par (12 * d + m) < m ∧ isP b d (b.par (12 * d + m)) ∧ -1 ≤ b.sign (12 * d + m) ∧ b.sign (12 * d + m) ≤ 1 from h3) 0 m iD0 ht hp m0
  rw [show 12 * 0 + m = m by omega] at g3
  exact ⟨g3.1, g3.2.1, g3.2.2.1⟩
def mbC (a : Ab) (d p w : Int) : Prop := inD d ∧ a.many d < 12 ∧ 0 ≤ p ∧ p < a.many d ∧ isP a d p ∧ -1 ≤ w ∧ w ≤ 1
theorem mb_C (C : mbC a d p w) : nwC a d 0 p w (a.set (12 * d + a.many d)) (a.order (12 * d + a.many d)) := ⟨C.1, C.2.1, Or.inl ⟨rfl, C.2.2⟩⟩
theorem mx_T (W : WFA a) (C : mbC a d p w) : WT (mbX a d p w) := wT_of (nw_W W (mb_C C) mx_B 0 (by omega)) (nw_W W (mb_C C) mx_B 3 (by omega))
theorem mb_Chn (W : WFA a) (C : mbC a d p w) (H : Chn (mbX a d p w) row c) : Chn (mbA a d p w row c) row c := by
  have T := mx_T W C
  have h130 : Ab.many (mbA a d p w row c) = Ab.many (mbX a d p w) := mb_x (by omega) (by omega)
  have h131 : Ab.kind (mbA a d p w row c) = Ab.kind (mbX a d p w) := mb_x (by omega) (by omega)
  have h132 : Ab.par (mbA a d p w row c) = Ab.par (mbX a d p w) := mb_x (by omega) (by omega)
  exact Chn_t T ⟨by rw [h130]; exact Int.le_refl _, by rw [h130]; exact T.2.1, fun k _ _ => by rw [h131, h132]; exact ⟨rfl, rfl⟩, fun k h1 h2 => by rw [h130] at h2; omega⟩ H
theorem mb_pl (H : Chn (mbX a d p w) row c) : ∀ i : Int, 0 ≤ i → i < c → Ab.place (mbA a d p w row c) (row i) = i := by
  intro i i0 i1
  have g := plA_p H i i0 i1
  have e : Ab.place (mbA a d p w row c) = Ab.place (plA (mbX a d p w) row c) := by
    show frs (plA (mbX a d p w) row c) 145 = plA (mbX a d p w) row c 145
    exact frs_q (by omega)
  rw [e]; exact g
theorem mb_W (W : WFA a) (C : mbC a d p w) (H : Chn (mbX a d p w) row c) : WFA (mbA a d p w row c) := by
  have N := mb_B (a := a) (d := d) (p := p) (w := w) (row := row) (c := c)
  have G := nw_G W (mb_C C) (by omega) N
  have h := nw_W W (mb_C C) N
  refine WFA_all (fun k hk => ?_) (wfa_8 W (mb_j (by omega)) (mb_j (by omega))) (wfa_m W mb_M) (wfa_fg W (gr_z G) mb_M mb_F) (wfa_k0 (frs_0 _)) (wfa_pg W (gr_z G) mb_P) (wfa_17 W (by unfold Ab.len; rw [mb_q (by omega) (by omega) (by omega)]))
  rcases hk with hk | hk
  · exact h k hk
  · subst hk
    exact ⟨row, c, mb_Chn W C H, mb_pl H⟩
/-- what the class's order of time holds then -/
def insR (s : Hp) (b : Ab) : Prop := Chn b (s 93) (s 92 0) ∧ (∀ i : Int, 0 ≤ i → i < s 92 0 → s 94 (s 93 i) = i) ∧ ∀ k : Int, 0 ≤ k → k < 12 → ¬ (thr b 0 k ∧ isP b 0 k) → s 94 k = -1
theorem mb_ICT (W : WFA a) (C : mbC a d p w) {s : Hp} (H : insR s (mbX a d p w)) : ICT s (mbA a d p w (s 93) (s 92 0)) := by
  have CH := mb_Chn W C H.1
  have PL := mb_pl H.1
  intro k
  match k with
  | 0 => exact ⟨CH, PL⟩
  | 1 =>
    intro m m0 m1
    have h130 : Ab.many (mbA a d p w (s 93) (s 92 0)) = Ab.many (mbX a d p w) := mb_x (by omega) (by omega)
    have h131 : Ab.kind (mbA a d p w (s 93) (s 92 0)) = Ab.kind (mbX a d p w) := mb_x (by omega) (by omega)
    by_cases g : thr (mbA a d p w (s 93) (s 92 0)) 0 m ∧ isP (mbA a d p w (s 93) (s 92 0)) 0 m
    · rw [if_pos g]
      obtain ⟨i, i0, i1, i2⟩ := (show ∀ m : Int, thr (mbA a d p w (s 93) (s 92 0)) 0 m → isP (mbA a d p w (s 93) (s 92 0)) 0 m → ∃ i : Int, 0 ≤ i ∧ i < s 92 0 ∧ s 93 i = m from CH 5) m g.1 g.2
      rw [← i2, H.2.1 i i0 i1, PL i i0 i1]
    · rw [if_neg g]
      exact H.2.2 m m0 m1 (fun q => g (by simp only [thr, isP, h130, h131]; exact q))
  | _ + 2 => trivial
theorem c_addPlain (W : WFA a) (R : ICR σ a) (hd : inD d) (hm : a.many d < 12) (p w st o : Int) : Okk (f_D_addPlain σ (dP d) p w) fun r => r.1 = a.many d ∧ nwS σ r.2 (dP d) (a.many d) 0 p w st o ∧ (∀ q : Nat, q < dP d ∨ dP d + 29 < q → r.2 q = σ q) ∧ r.2 (dP d + 11) = σ (dP d + 11) := by
  have mb := many_b W hd
  have e0 : σ (dP d) 0 = a.many d := icr_d R hd 0
  unfold f_D_addPlain
  refine ok_eqb (e_D_addKind (k := 0) e0 (by omega) hm) ?_
  dsimp only
  have e1 : (hset (hset σ (dP d + 5) (a.many d) 0) (dP d) 0 (a.many d + 1)) (dP d) 0 = a.many d + 1 := hs_eq
  refine ok_eqb (e_D_has _ (dP d) (a.many d)) ?_
  rw [e1, bI_t ⟨by omega, by omega, hm⟩, if_neg (by omega)]
  refine ok_bind (ok_grd ⟨by omega, hm⟩ (ok_grd ⟨by omega, hm⟩ (ok_some (ok_some ⟨rfl, ?_, fun q hq => ?_, ?_⟩))))
  · dsimp only
    generalize hs : hset (hset (hset (hset σ (dP d + 5) (a.many d) 0) (dP d) 0 (a.many d + 1)) (dP d + 6) (a.many d) p) (dP d + 7) (a.many d) w = u
    have E : ∀ q : Nat, q ≠ dP d → q ≠ dP d + 5 → q ≠ dP d + 6 → q ≠ dP d + 7 → u q = σ q := fun q q1 q2 q3 q4 => by rw [← hs, hset_ne q4, hset_ne q3, hset_ne q1, hset_ne q2]
    refine ⟨?_, fun j hj => ?_, fun j => ?_, fun q hq j hj => ?_, fun _ => ⟨?_, ?_⟩, fun g => absurd g (by omega), fun g => absurd g (by omega), fun q hq => E q (by omega) (by omega) (by omega) (by omega)⟩
    · rw [← hs, hset_ne (by omega), hset_ne (by omega)]; exact hs_eq
    · rw [← hs, hset_ne (by omega), hset_ne (by omega), hs_nj hj, hset_ne (by omega)]
    · rw [← hs, hset_ne (by omega), hset_ne (by omega), hset_ne (by omega), hs_if]
    · by_cases q7 : q = dP d + 7
      · rw [← hs, q7, hs_nj hj, hset_ne (by omega), hset_ne (by omega), hset_ne (by omega)]
      · by_cases q6 : q = dP d + 6
        · rw [← hs, q6, hset_ne (by omega), hs_nj hj, hset_ne (by omega), hset_ne (by omega)]
        · rw [E q (by omega) (by omega) q6 q7]
    · rw [← hs, hset_ne (by omega)]; exact hs_eq
    · rw [← hs]; exact hs_eq
  · dsimp only; rw [hset_ne (by omega), hset_ne (by omega), hset_ne (by omega), hset_ne (by omega)]
  · dsimp only; rw [hset_ne (by omega), hset_ne (by omega), hset_ne (by omega), hset_ne (by omega)]
theorem nwS_f {s s2 : Hp} {m kd pr sg st o : Int} {P : Nat} (h : ∀ q : Nat, P ≤ q → q ≤ P + 29 → s2 q = s q) (H : nwS σ s P m kd pr sg st o) : nwS σ s2 P m kd pr sg st o := by
  unfold nwS at H ⊢
  obtain ⟨h0, h1, h2, h3, h4, h5, h6, h7⟩ := H
  rw [h P (by omega) (by omega), h (P + 5) (by omega) (by omega), h (P + 6) (by omega) (by omega), h (P + 7) (by omega) (by omega), h (P + 8) (by omega) (by omega), h (P + 9) (by omega) (by omega)]
  exact ⟨h0, h1, h2, fun q hq j hj => by rw [h q (by omega) (by omega)]; exact h3 q hq j hj, h4, h5, h6, fun q hq => by rw [h q (by omega) (by omega)]; exact h7 q hq⟩
/-- the class's order of time, with the member or without -/
theorem c_stand (W : WFA a) (R : ICR σ a) (C : mbC a d p w) {s : Hp} (S : nwS σ s (dP d) (a.many d) 0 p w (a.set (12 * d + a.many d)) (a.order (12 * d + a.many d))) (E : ∀ q : Nat, q < dP d ∨ dP d + 29 < q → s q = σ q) : Okk (if d ≠ 0 then some s else (f_TO_insert s (a.many d) p (dP d)).bind fun v22 => some v22 : Option (Hp)) fun u => (∀ q : Nat, q ≠ 92 → q ≠ 93 → q ≠ 94 → u q = s q) ∧ insR u (mbX a d p w) := by
  have hd := C.1
  have hdp := dP_b hd
  have N := mx_B (a := a) (d := d) (p := p) (w := w)
  have hT : ICT s a := ICT_e (fun q q1 q2 => E q (by omega)) R.2.2.2.1
  refine ok_ite (fun g => ?_) (fun g => ?_)
  · refine ok_some ⟨fun _ _ _ _ => rfl, ?_, fun i i0 i1 => ?_, fun k k0 k1 hk => ?_⟩
    · exact Chn_t (wT W) (nw_sTm W (mb_C C) (Or.inr g) N) (show Chn a (s 93) (s 92 0) ∧ _ from hT 0).1
    · have h0 : Chn a (s 93) (s 92 0) ∧ ∀ i : Int, 0 ≤ i → i < s 92 0 → a.place (s 93 i) = i := hT 0
      have c2 := (show ∀ i : Int, 0 ≤ i → i < s 92 0 → thr a 0 (s 93 i) ∧ isP a 0 (s 93 i) from h0.1 2) i i0 i1
      have t12 := thr12 W iD0 c2.1
      rw [(show ∀ m : Int, 0 ≤ m → m < 12 → s 94 m = @ite _ (thr a 0 m ∧ isP a 0 m) (Classical.propDecidable _) (a.place m) (-1) from hT 1) _ t12.1 t12.2, if_pos c2]
      exact h0.2 i i0 i1
    · rw [(show ∀ m : Int, 0 ≤ m → m < 12 → s 94 m = @ite _ (thr a 0 m ∧ isP a 0 m) (Classical.propDecidable _) (a.place m) (-1) from hT 1) k k0 k1]
      have ne : ¬ ((0 : Int) = d ∧ k = a.many d) := fun z => g z.1.symm
      rw [if_neg (fun q => hk ⟨(nw_t N ne).mpr q.1, (nw_p W hd C.2.1 N iD0 k0 k1 ne).mpr q.2⟩)]
  · have g0 : d = 0 := Classical.not_not.mp g
    subst g0
    have G : grown a (mbX a 0 p w) p (a.many 0) := by
      refine ⟨rfl, nw_s N, ⟨C.2.2.1, C.2.2.2.1⟩, C.2.2.2.2.1, ?_, ?_, fun k k0 k1 => ?_⟩
      · show Ab.kind (mbX a 0 p w) (12 * 0 + a.many 0) = 0
        rw [N.2.1, if_pos rfl]
      · rw [N.2.2.1, if_pos (by omega)]
      · have ne := nw_ne W iD0 C.2.1 iD0 k0 (by have := C.2.1; omega) (fun z : (0 : Int) = 0 ∧ k = a.many 0 => by omega)
        rw [N.2.1, N.2.2.1, if_neg ne, if_neg (by omega)]
        exact ⟨rfl, rfl⟩
    refine ok_mono (ok_call (c_insert W (mx_T W C) G hT (fun k ht hp => ?_)) (fun u hu => ok_some hu)) ?_
    · obtain ⟨s0, s1, s5, s6, sa, sb, sc, sq⟩ := S
      have k12 := thr12 W iD0 ht
      have e2 : s 2 0 = a.many 0 + 1 := s0
      have e7 : s (2 + 5) k = 0 := by
        have := s5 k
        rw [if_neg (by have := ht.2; omega)] at this
        rw [show (2 + 5 : Nat) = dP 0 + 5 from rfl, this]
        exact ((show ∀ m : Int, thr a 0 m → σ (2 + 5) m = a.kind (12 * 0 + m) from R.1 3) k ht).trans hp
      have e16 : s (2 + 14) = σ (2 + 14) := sq (dP 0 + 14) (by omega)
      rw [e_D_depthOf, if_pos ⟨k12.1, by rw [e2]; have := ht.2; omega, k12.2, e7⟩, e16]
      exact congrArg some ((show ∀ m : Int, thr a 0 m → isP a 0 m → σ (2 + 14) m = dep a 0 m from R.1 9) k ht hp)
    · rintro u ⟨u1, u2, u3, u4⟩
      exact ⟨u1, u2, u3, u4⟩
end
