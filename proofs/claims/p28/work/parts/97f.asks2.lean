/-! ===== the law: its questions are answered as it asks ===== -/
section
variable {σ s : Hp} {a a' b : Ab} {n N : Nat} {B B' : Int} {e : Nat} {d m : Int}
def AskQ (N : Nat) (e : Nat) (B : Int) (r : Int × Nat × Hp) : Prop := r.1 = 1 ∧ r.2.1 ≤ e ∧ ∃ a', nA r.2.2 a' ∧ J r.2.2 a' N B
/-- the greatest values, in their order -/
theorem l_360 (A : nA σ a) (hB : B ≤ 98000) (hd : inD d) {o : Int} (ho : inD o) (hne : d ≠ o) (hm : 0 ≤ m ∧ m < a.measures) {t x y c k : Int} {v : Int × Nat × Hp} (hv : v.1 = k) (hk : k = a.picks d) (k3 : k ≤ 3) (kc : k ≤ c) (hc : cin3 a (t, x, y)) (Z : ∀ i : Int, 0 ≤ i → i < k → aV a m (wD d (a.pick (12 * d + i)) (t, x, y)) ≠ zNO) (D : ∀ i j : Int, 0 ≤ i → i < j → j < k → aV a m (wD d (a.pick (12 * d + j)) (t, x, y)) ≤ aV a m (wD d (a.pick (12 * d + i)) (t, x, y))) : ∀ (F : Nat) (l i : Int) (s : Hp), 0 ≤ i → i ≤ k → k - i < F → J s a N (B + 60 * i) → s 129 = σ 129 → (i = 0 → l = 9223372036854775807) → (0 < i → l = aV a m (wD d (a.pick (12 * d + (i - 1))) (t, x, y))) → Okk (f_L_asks_360 t x y m d o c v F l i s e) (AskQ N (e + 1) (B + 360)) := by
  intro F
  induction F with
  | zero => intro l i s i0 i1 hF; omega
  | succ F ih =>
    intro l i s i0 i1 hF Js h129 hl0 hl1
    rw [f_L_asks_360, hv]
    refine ok_ite (fun g => ?_) (fun g => ?_)
    · have Q := l_451 (e := e) (J_up Js (show B + 60 * i ≤ B + 180 by omega)) (nA_s A h129 (TKs_r a)) (by omega) hd ho hne hm hk k3 kc
      rw [show B + 180 + 180 = B + 360 by omega] at Q
      exact Q
    · have W := Js.1
      have K := Js.2.1
      have ht := pck W hd i0 (by omega : i < a.picks d)
      have hin := wD_in hd ht hc
      refine ok_call (j_picked Js hd i0) ?_
      rintro u ⟨u1, u2⟩
      rw [if_pos (by omega)] at u2
      refine ok_grd u1 (ok_call (P := fun j => j = (wD d (a.pick (12 * d + i)) (t, x, y)).1) ?_ ?_)
      · show Okk (if d ≠ 0 then some t else some u.2) fun j => j = if d = 0 then a.pick (12 * d + i) else t
        exact ok_ite (fun q => ok_some (if_neg q).symm) (fun q => ok_some (by rw [if_pos (Classical.not_not.mp q)]; exact u2))
      rintro j1 rfl
      refine ok_call (P := fun j => j = (wD d (a.pick (12 * d + i)) (t, x, y)).2.1) ?_ ?_
      · show Okk (if d ≠ 1 then some x else some u.2) fun j => j = if d = 1 then a.pick (12 * d + i) else x
        exact ok_ite (fun q => ok_some (if_neg q).symm) (fun q => ok_some (by rw [if_pos (Classical.not_not.mp q)]; exact u2))
      rintro j2 rfl
      refine ok_call (P := fun j => j = (wD d (a.pick (12 * d + i)) (t, x, y)).2.2) ?_ ?_
      · show Okk (if d ≠ 2 then some y else some u.2) fun j => j = if d = 2 then a.pick (12 * d + i) else y
        exact ok_ite (fun q => ok_some (if_neg q).symm) (fun q => ok_some (by rw [if_pos (Classical.not_not.mp q)]; exact u2))
      rintro j3 rfl
      refine ok_call (j_cellAnew Js (by omega) ⟨hin.1, hin.2.1, hin.2.2, hm⟩) ?_
      rintro w ⟨w1, w2, wK, wJ⟩
      have w2' : w.2.1 = aV a m (wD d (a.pick (12 * d + i)) (t, x, y)) := w2
      refine ok_grd w1 ?_
      rw [if_neg (fun q => Z i i0 (by omega) (by rw [← w2']; exact lcm_eq.mp q))]
      have le : w.2.1 ≤ l := by
        by_cases z : i = 0
        · rw [hl0 z, w2']; exact aV_b W K hm.1 hm.2 hin
        · rw [hl1 (by omega), w2']; exact D (i - 1) i (by omega) (by omega) (by omega)
      rw [if_pos (lcm_le.mpr le)]
      refine ok_grd (by unfold r32; omega) (ih w.2.1 (i + 1) w.2.2 (by omega) (by omega) (by omega) ?_ ?_ (fun q => by omega) (fun _ => ?_))
      · rw [show B + 60 * (i + 1) = B + 60 * i + 60 by omega]; exact wJ
      · rw [wK 129 (by omega) (by omega)]; exact h129
      · rw [show i + 1 - 1 = i by omega]; exact w2'
theorem l_332 (H : J σ a N B) (A : nA σ a) (hB : B ≤ 97000) (hd : inD d) {o : Int} (ho : inD o) (hne : d ≠ o) (hm : 0 ≤ m ∧ m < a.measures) {t x y x0 c : Int} (hch : chC a = (t, x, y)) (hc : c = nC (askC a d 2 (lwV (ishr x0 6) 4)) (a.many d).toNat) : Okk (f_L_asks_c332 σ e x0 t x y m d o c) (AskQ N (e + 2) (B + 420)) := by
  have W := H.1
  have K := H.2.1
  have lv := lw_b (ishr x0 6) (k := 4) (by omega)
  unfold f_L_asks_c332
  refine ok_eqb (e_low σ _ (by omega)) (ok_call (y_pickC H (by omega) ⟨⟨hd, fun q => absurd rfl q, fun _ => hm⟩, ⟨by omega, by omega, fun _ => by omega⟩, fun q => absurd rfl q⟩) ?_)
  rintro r ⟨r1, rK, b, ⟨row, eb, r2, r3, D⟩, rJ⟩
  rcases D with ⟨q, _⟩ | ⟨_, cc, yv, cr, q1, q2, q3⟩
  · omega
  · have V : sval a b := by rw [eb]; exact pb_V
    have Mb : b.measures = a.measures := V.2.1.2.2.2.2
    have Hb : b.hits = a.hits := by rw [eb]; exact pb_j 41
    have pd : r.1 = b.picks d := by rw [eb, pb_n, if_pos rfl]
    have hbm : b.many = a.many := V.1.1 130 (by omega)
    have pk : ∀ i : Int, 0 ≤ i → i < r.1 → b.pick (12 * d + i) = cr i := fun i i0 i1 => by
      rw [eb, pb_p]; exact q3 i i0 i1
    have hin : cin3 b (t, x, y) := by
      have g := chC_in rJ.1
      have ec : chC b = chC a := by
        have h163 : b.chos = a.chos := by rw [eb]; exact pb_q (by omega) (by omega)
        unfold chC; rw [h163]
      rw [ec, hch] at g; exact g
    have hin' : cin3 a (t, x, y) := by rw [← hch]; exact chC_in W
    have hv : ∀ i : Int, 0 ≤ i → i < r.1 → aV b m (wD d (b.pick (12 * d + i)) (t, x, y)) = mV a m d (cr i) := fun i i0 i1 => by
      have ht : thr b d (b.pick (12 * d + i)) := pck rJ.1 hd i0 (by omega)
      have ht' : thr a d (b.pick (12 * d + i)) := by unfold thr at ht ⊢; rw [hbm] at ht; exact ht
      rw [aV_c W K V (wD_in hd ht' hin'), pk i i0 i1]
      unfold mV; rw [hch]
    have Q := l_360 (e := r.2.1) (σ := r.2.2) (N := N) (B := B + 60) (v := r) (nA_k A (rK 129 (by omega) (by omega)) V.1 Mb (by omega)) (by omega) hd ho hne (by rw [Mb]; exact hm) (t := t) (x := x) (y := y) (c := c) rfl pd (by omega) (by omega) hin (fun i i0 i1 => by rw [hv i i0 i1]; exact (q2.2.1 i i0 (by omega)).2) (fun i j i0 ij j1 => by
      rw [hv i i0 (by omega), hv j (by omega) j1]
      rcases q2.2.2.2 i j i0 ij (by omega) with g | g
      · omega
      · omega) zFuel 9223372036854775807 0 r.2.2 (by omega) r2 (by unfold zFuel; omega) (by rw [show B + 60 + 60 * 0 = B + 60 by omega]; exact rJ) rfl (fun _ => rfl) (fun q => by omega)
    refine ok_mono Q ?_
    rintro u ⟨u1, u2, a', u3, u4⟩
    exact ⟨u1, by omega, a', u3, by rw [show B + 420 = B + 60 + 360 by omega]; exact u4⟩
/-- what is picked by its depth is in its order -/
theorem l_263 {v : Int × Nat × Hp} (H : J v.2.2 a N B) (A : nA v.2.2 a) (hB : B ≤ 97000) (hd : inD d) (hm : 0 ≤ m ∧ m < a.measures) {t x y x0 : Int} (hch : chC a = (t, x, y)) (hv : v.1 = a.picks d) (hc : v.1 = nC (askC a d 2 (lwV (ishr x0 6) 4)) (a.many d).toNat) (R : ∀ i : Int, 0 ≤ i → i < v.1 → thr a d (a.pick (12 * d + i)) ∧ mAt a d (a.pick (12 * d + i)) 2 = lwV (ishr x0 6) 4 ∧ mAt a d (a.pick (12 * d + i)) 4 = 1) (U : ∀ i : Int, 0 ≤ i → i + 1 < v.1 → a.pick (12 * d + i) < a.pick (12 * d + (i + 1))) : ∀ (F : Nat) (p i : Int), 0 ≤ i → i ≤ v.1 → v.1 - i < F → (i = 0 → p = -1) → (0 < i → p = a.pick (12 * d + (i - 1))) → Okk (f_L_asks_263 x0 t x y m d v F p i e) (AskQ N (e + 2) (B + 420)) := by
  have ho : inD (Int.tmod (d + 1) 3) ∧ d ≠ Int.tmod (d + 1) 3 := by
    rcases hd with rfl | rfl | rfl <;> unfold inD <;> decide
  have b12 := pck_b H.1 hd
  intro F
  induction F with
  | zero => intro p i i0 i1 hF; omega
  | succ F ih =>
    intro p i i0 i1 hF hp0 hp1
    rw [f_L_asks_263]
    refine ok_ite (fun g => l_332 H A hB hd ho.1 ho.2 hm hch hc) (fun g => ?_)
    obtain ⟨R1, R2, R3⟩ := R i i0 (by omega)
    refine ok_call (j_picked H hd i0) ?_
    rintro u ⟨u1, u2⟩
    rw [if_pos (by omega)] at u2
    refine ok_grd u1 ?_
    rw [u2]
    have gt : p < a.pick (12 * d + i) := by
      by_cases z : i = 0
      · rw [hp0 z]; have := R1.1; omega
      · rw [hp1 (by omega)]
        have := U (i - 1) (by omega) (by omega)
        rw [show i - 1 + 1 = i by omega] at this
        exact this
    rw [if_neg (by omega)]
    refine ok_call (j_memberAt H hd R1 (by omega)) ?_
    rintro w ⟨w1, w2⟩
    refine ok_grd w1 (ok_eqb (e_low _ _ (by omega)) ?_)
    rw [if_neg (fun q => q (by rw [w2, R2]))]
    refine ok_call (j_memberAt H hd R1 (by omega)) ?_
    rintro z ⟨z1, z2⟩
    refine ok_grd z1 ?_
    rw [if_pos (by rw [z2, R3])]
    exact ok_grd (by unfold r32; omega) (ih _ (i + 1) (by omega) (by omega) (by omega) (fun q => by omega) (fun _ => by rw [show i + 1 - 1 = i by omega]))
theorem pk_row (W : WFA a) (hd : inD d) {z : Int} : (∀ i : Int, 0 ≤ i → i < nC (askC a d 2 z) (a.many d).toNat → ∃ y : Nat, y < (a.many d).toNat ∧ askP a d 2 z y ∧ nC (askC a d 2 z) y = i ∧ pkR a d (askC a d 2 z) (a.many d).toNat (12 * d + i) = y) := by
  intro i i0 i1
  obtain ⟨y, y1, y2, y3⟩ := nC_sur (c := askC a d 2 z) _ i i0 i1
  have ha : askP a d 2 z y := Classical.byContradiction (fun q => y2 (bI_f q))
  refine ⟨y, y1, ha, y3, ?_⟩
  rw [← y3]
  exact pkR_v _ y y1 y2
theorem l_190 (H : J σ a N B) (A : nA σ a) (hB : B ≤ 96000) {t x y m x0 : Int} (h : mem4 a t x y m) : Okk (f_L_asks_c190 σ e x0 t x y m) (AskQ N (e + 3) (B + 660)) := by
  have W := H.1
  unfold f_L_asks_c190
  have l3 := lw_b (ishr x0 4) (k := 3) (by omega)
  have lv := lw_b (ishr x0 6) (k := 4) (by omega)
  refine ok_eqb (i_hits H) (ok_grd (by omega) (ok_eqb (e_low _ _ (by omega)) ?_))
  generalize lwV (ishr x0 4) 3 = d at *
  have hd : inD d := inD_of (by omega)
  have J1 : J (hset σ 129 4 a.hits) a N B := J_h H (fun q hq => hset_ne (by omega))
  have A1 : nA (hset σ 129 4 a.hits) a := ⟨fun k hk => by have := inD_b hk; rw [hs_nj (by omega)]; exact A.1 k hk, by rw [hs_nj (by omega)]; exact A.2.1, by rw [hs_eq]; exact Int.le_refl _, A.2.2.2⟩
  have tm : ∀ (c : Ab) (d' m' : Int), Ab.many (hset c 163 d' m') = c.many := fun c d' m' => hset_ne (by omega)
  refine ok_grd (by unfold r32; omega) (ok_grd (by omega) (ok_call (j_at J1 iD0 h.1) ?_))
  rintro u ⟨u1, uK, uJ⟩
  refine ok_grd u1 (ok_call (j_at uJ iD1 (by unfold thr; rw [tm]; exact h.2.1)) ?_)
  rintro w ⟨w1, wK, wJ⟩
  refine ok_grd w1 (ok_call (j_at wJ iD2 (by unfold thr; rw [tm, tm]; exact h.2.2.1)) ?_)
  rintro z ⟨z1, zK, zJ⟩
  refine ok_grd z1 (ok_eqb (e_low _ _ (by omega)) ?_)
  have S3 : sval a (hset (hset (hset a 163 0 t) 163 1 x) 163 2 y) ∧ (Ab.hits (hset (hset (hset a 163 0 t) 163 1 x) 163 2 y) = a.hits) ∧ chC (hset (hset (hset a 163 0 t) 163 1 x) 163 2 y) = (t, x, y) := by
    have q9 : ∀ q : Nat, q ≠ 163 → (hset (hset (hset a 163 0 t) 163 1 x) 163 2 y) q = a q := fun q hq => by rw [hset_ne hq, hset_ne hq, hset_ne hq]
    refine ⟨⟨⟨fun q hq => q9 q (by omega), congrFun (q9 129 (by omega)) 15⟩, ⟨q9 _ (by omega), q9 _ (by omega), q9 _ (by omega), q9 _ (by omega), congrFun (q9 129 (by omega)) 23⟩, ⟨congrFun (q9 129 (by omega)) 16, congrFun (q9 129 (by omega)) 17⟩, fun q _ _ => q9 q (by omega), congrFun (q9 129 (by omega)) 29, fun i _ => ⟨congrFun (q9 137 (by omega)) i, congrFun (q9 138 (by omega)) i, congrFun (q9 139 (by omega)) i⟩, fun i _ => congrFun (q9 140 (by omega)) i⟩, congrFun (q9 129 (by omega)) 41, ?_⟩
    show (hset (hset (hset a 163 0 t) 163 1 x) 163 2 y 163 0, hset (hset (hset a 163 0 t) 163 1 x) 163 2 y 163 1, hset (hset (hset a 163 0 t) 163 1 x) 163 2 y 163 2) = (t, x, y)
    rw [hs_nj (by omega), hs_nj (by omega), hs_eq, hs_nj (by omega), hs_eq, hs_eq]
  generalize (hset (hset (hset a 163 0 t) 163 1 x) 163 2 y : Ab) = c at *
  obtain ⟨V, Hc, Hch⟩ := S3
  have Mc : Ab.measures c = a.measures := V.2.1.2.2.2.2
  have K3 : z.2.2 129 = (hset σ 129 4 a.hits) 129 := by rw [zK 129 (by omega) (by omega), wK 129 (by omega) (by omega), uK 129 (by omega) (by omega)]
  have Ac : nA z.2.2 c := nA_k A1 K3 V.1 Mc (by omega)
  have Wc := zJ.1
  refine ok_call (y_pickC zJ (by omega) ⟨⟨hd, fun q => absurd rfl q, fun q => absurd rfl q⟩, ⟨by omega, by omega, fun _ => by omega⟩, fun q => absurd rfl q⟩) ?_
  rintro r ⟨r1, rK, b, ⟨row, eb, r2, r3, D⟩, rJ⟩
  rcases D with ⟨_, q1, q2⟩ | ⟨q, _⟩
  · have Vb : sval c b := by rw [eb]; exact pb_V
    have Mb : b.measures = Ab.measures c := Vb.2.1.2.2.2.2
    have Hb : b.hits = Ab.hits c := by rw [eb]; exact pb_j 41
    have hbm : b.many = Ab.many c := Vb.1.1 130 (by omega)
    have hbk : b.kind = Ab.kind c := Vb.1.1 131 (by omega)
    have pd : r.1 = b.picks d := by rw [eb, pb_n, if_pos rfl]
    have ec : chC b = chC c := by
      have h163 : b.chos = Ab.chos c := by rw [eb]; exact pb_q (by omega) (by omega)
      unfold chC; rw [h163]
    have pk : ∀ i : Int, 0 ≤ i → i < r.1 → ∃ y : Nat, y < (Ab.many c d).toNat ∧ askP c d 2 (lwV (ishr x0 6) 4) y ∧ nC (askC c d 2 (lwV (ishr x0 6) 4)) y = i ∧ b.pick (12 * d + i) = y := fun i i0 i1 => by
      obtain ⟨y, y1, y2, y3, y4⟩ := pk_row (z := lwV (ishr x0 6) 4) Wc hd i i0 (by omega)
      exact ⟨y, y1, y2, y3, by rw [eb, pb_p, q2 i i0 i1, y4]⟩
    have Q := l_263 (e := r.2.1) (v := r) (N := N) (x0 := x0) (m := m) (t := t) (x := x) (y := y) rJ (nA_k Ac (rK 129 (by omega) (by omega)) Vb.1 Mb (by omega)) (by omega) hd (by rw [Mb, Mc]; exact h.2.2.2) (by rw [ec]; exact Hch) pd (by rw [hbm, askC_c Vb.1]; exact q1) (fun i i0 i1 => by
      obtain ⟨y, y1, y2, y3, y4⟩ := pk i i0 i1
      rw [y4]
      have hp : isP b d y := by show b.kind _ = 0; rw [hbk]; exact y2.1
      refine ⟨⟨by omega, by rw [hbm]; omega⟩, ?_, ?_⟩
      · rw [mAt_2e, if_pos hp, dep_c (sm_p Vb.1)]; exact y2.2.2.2.1 rfl
      · rw [mAt_4, bI_t ((see_c Vb.1 d y).mpr y2.2.1)]) (fun i i0 i1 => by
      obtain ⟨y, y1, y2, y3, y4⟩ := pk i i0 (by omega)
      obtain ⟨y', y1', y2', y3', y4'⟩ := pk (i + 1) (by omega) i1
      rw [y4, y4']
      by_cases g : y < y'
      · omega
      · have hlt := nC_le (askC c d 2 (lwV (ishr x0 6) 4)) y' (y - y')
        rw [show y' + (y - y') = y by omega, y3, y3'] at hlt
        omega) zFuel (-1) 0 (by omega) r2 (by have := pck_b rJ.1 hd; unfold zFuel; omega) (fun _ => rfl) (fun q => by omega)
    refine ok_mono Q ?_
    rintro u ⟨u1, u2, a', u3, u4⟩
    exact ⟨u1, by omega, a', u3, J_up u4 (by omega)⟩
  · exact absurd rfl q
end
