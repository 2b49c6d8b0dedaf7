/-! ===== bridge ===== -/
section
variable {σ : Hp} {a a' b : Ab} {n : Nat} {B : Int} {e : Nat} {d kd pr sg st o : Int}
theorem Vw_id (V : Vw σ a) {q : Nat} {i v : Int} (h : a q i = v) : Vw σ (hset a q i v) := by
  intro p j hq
  rw [V p j hq]
  by_cases g : p = q ∧ j = i
  · rw [g.1, g.2, hs_eq]; exact h
  · by_cases g1 : p = q
    · subst g1; rw [hs_nj (fun z => g ⟨rfl, z⟩)]
    · rw [hset_ne g1]
/-- the reference's cells with a member more, nothing kept -/
def nwF (a : Ab) (d kd pr sg st o : Int) : Ab := frs (nwA a d kd pr sg st o)
theorem nf_q {q : Nat} (h : q ≠ 129) (h2 : q < 130 ∨ 135 < q) : nwF a d kd pr sg st o q = a q := by unfold nwF; rw [frs_q h]; exact nw_q h2
theorem nf_j {j : Int} (h : j ≠ 40) : nwF a d kd pr sg st o 129 j = a 129 j := by unfold nwF; rw [frs_j h, nw_q (by omega)]
theorem nf_B : nwB a (nwF a d kd pr sg st o) d kd pr sg st o := by
  have E : ∀ q : Nat, q ≠ 129 → nwF a d kd pr sg st o q = nwA a d kd pr sg st o q := fun q hq => frs_q hq
  refine ⟨fun j => ?_, fun j => ?_, fun j => ?_, fun j => ?_, fun j => ?_, fun j => ?_, fun q hq => nf_q (by omega) (by omega), nf_j (by omega)⟩
  · unfold Ab.many; rw [E 130 (by omega)]; exact nw_many j
  · unfold Ab.kind; rw [E 131 (by omega)]; exact nw_kind j
  · unfold Ab.par; rw [E 132 (by omega)]; exact nw_par j
  · unfold Ab.sign; rw [E 133 (by omega)]; exact nw_sign j
  · unfold Ab.set; rw [E 134 (by omega)]; exact nw_set j
  · unfold Ab.order; rw [E 135 (by omega)]; exact nw_order j
theorem nf_M : smea a (nwF a d kd pr sg st o) := ⟨nf_q (by omega) (by omega), nf_q (by omega) (by omega), nf_q (by omega) (by omega), nf_q (by omega) (by omega), nf_j (by omega)⟩
theorem nf_F : sfac a (nwF a d kd pr sg st o) := ⟨fun q h1 h2 => nf_q (by omega) (by omega), nf_j (by omega), nf_j (by omega)⟩
theorem nf_D : swd a (nwF a d kd pr sg st o) := ⟨nf_q (by omega) (by omega), nf_q (by omega) (by omega), nf_q (by omega) (by omega), nf_q (by omega) (by omega)⟩
theorem nf_P : spk a (nwF a d kd pr sg st o) := ⟨nf_q (by omega) (by omega), nf_q (by omega) (by omega), nf_q (by omega) (by omega)⟩
theorem nf_W (W : WFA a) (C : nwC a d kd pr sg st o) (h : kd ≠ 0 ∨ d ≠ 0) (hk : kd ≠ 2) : WFA (nwF a d kd pr sg st o) := by
  have G := nw_G W C hk (nf_B (a := a) (d := d) (kd := kd) (pr := pr) (sg := sg) (st := st) (o := o))
  have w := nw_W W C (nf_B (a := a) (d := d) (kd := kd) (pr := pr) (sg := sg) (st := st) (o := o))
  refine WFA_all (fun k hk => ?_) (wfa_8 W (nf_j (by omega)) (nf_j (by omega))) (wfa_m W nf_M) (wfa_fg W (gr_z G) nf_M nf_F) (wfa_k0 (frs_0 _)) (wfa_pg W (gr_z G) nf_P) (wfa_17 W (by unfold Ab.len; rw [nf_q (by omega) (by omega)]))
  rcases hk with hk | hk
  · exact w k hk
  · subst hk
    obtain ⟨row, c, hc, hpl⟩ : ∃ row c, Chn a row c ∧ ∀ i : Int, 0 ≤ i → i < c → a.place (row i) = i := W 9
    refine ⟨row, c, Chn_t (wT W) (nw_sTm W C h nf_B) hc, ?_⟩
    rw [show Ab.place (nwF a d kd pr sg st o) = a.place from nf_q (by omega) (by omega)]; exact hpl
/-- the order of time, where no PLAIN member came to it -/
theorem ICT_nw (W : WFA a) (C : nwC a d kd pr sg st o) (h : kd ≠ 0 ∨ d ≠ 0) {s : Hp} (E : ∀ q : Nat, 92 ≤ q → q ≤ 94 → s q = σ q) (H : ICT σ a) : ICT s (nwF a d kd pr sg st o) := by
  have N := nf_B (a := a) (d := d) (kd := kd) (pr := pr) (sg := sg) (st := st) (o := o)
  have hpl : Ab.place (nwF a d kd pr sg st o) = a.place := nf_q (by omega) (by omega)
  refine ICT_e E (fun k => ?_)
  match k with
  | 0 =>
    have h0 : Chn a (σ 93) (σ 92 0) ∧ ∀ i : Int, 0 ≤ i → i < σ 92 0 → a.place (σ 93 i) = i := H 0
    exact ⟨Chn_t (wT W) (nw_sTm W C h N) h0.1, by rw [hpl]; exact h0.2⟩
  | 1 =>
    have h1 : ∀ m : Int, 0 ≤ m → m < 12 → σ 94 m = @ite _ (thr a 0 m ∧ isP a 0 m) (Classical.propDecidable _) (a.place m) (-1) := H 1
    intro i m0 m1
    have e : (thr (nwF a d kd pr sg st o) 0 i ∧ isP (nwF a d kd pr sg st o) 0 i) ↔ (thr a 0 i ∧ isP a 0 i) := by
      by_cases g : (0 : Int) = d ∧ i = a.many d
      · constructor
        · rintro ⟨_, q2⟩
          have q3 : Ab.kind (nwF a d kd pr sg st o) (12 * 0 + i) = 0 := q2
          rw [N.2.1, if_pos (by rw [← g.1, g.2, ← g.1])] at q3
          rcases h with h | h
          · exact absurd q3 h
          · exact absurd g.1.symm h
        · rintro ⟨q1, _⟩
          have := q1.2; rw [g.2, ← g.1] at this; omega
      · rw [nw_t N g, nw_p W C.1 C.2.1 N iD0 m0 m1 g]
    rw [hpl, h1 i m0 m1]
    by_cases g : thr a 0 i ∧ isP a 0 i
    · rw [if_pos g, if_pos (e.mpr g)]
    · rw [if_neg g, if_neg (fun q => g (e.mp q))]
  | _ + 2 => trivial
/-- the class's part, where a PLAIN member or a bridge came, places untouched -/
theorem c_nw (W : WFA a) (I : IC σ a n B) (C : nwC a d kd pr sg st o) (h : kd ≠ 0 ∨ d ≠ 0) (hk : kd ≠ 2) {s : Hp} (S : nwS σ s (dP d) (a.many d) kd pr sg st o) (E : ∀ q : Nat, q < dP d ∨ dP d + 29 < q → s q = σ q) (E11 : s (dP d + 11) = σ (dP d + 11)) {B' : Int} (hB : B ≤ B') : Okk (f_S_weigh s) fun u => (∀ q : Nat, 95 ≤ q → u q = σ q) ∧ IC (hset u 108 0 0) (nwF a d kd pr sg st o) n B' := by
  obtain ⟨R, IK, IW, I9⟩ := IC_r I
  have hd := C.1
  have hdp := dP_b hd
  have N := nf_B (a := a) (d := d) (kd := kd) (pr := pr) (sg := sg) (st := st) (o := o)
  have T : ∀ d' : Int, inD d' → told s (nwF a d kd pr sg st o) (dP d') d' := by
    intro d' hd'
    by_cases g : d' = d
    · subst g; exact told_nw W C N nf_P hk (icr_d R hd) S
    · have := dP_ne hd hd' g
      exact told_nx W C N nf_P hd' g (icr_d R hd') (fun q q1 q2 => E q (by omega))
  have E11' : ∀ d' : Int, inD d' → s (dP d' + 11) = σ (dP d' + 11) := fun d' hd' => by
    by_cases g : d' = d
    · subst g; exact E11
    · have := dP_ne hd hd' g
      exact E _ (by omega)
  refine c_str I (nf_W W C h hk) (nw_G W C hk N) nf_M nf_F nf_D ⟨nf_j (by omega), nf_j (by omega)⟩ (frs_0 _) (nf_j (by omega)) (T 0 iD0) (T 1 iD1) (T 2 iD2) (ICT_nw W C h (fun q q1 q2 => E q (by omega)) R.2.2.2.1) (fun q hq => ?_) hB
  rcases hq with hq | hq | hq | hq | hq
  · exact E q (by omega)
  · subst hq; exact E11' 0 iD0
  · subst hq; exact E11' 1 iD1
  · subst hq; exact E11' 2 iD2
  · exact E q (by omega)
/-! bits of a bridge -/
theorem bit_lt {s k m : Int} (s0 : 0 ≤ s) (m0 : 0 ≤ m) (k0 : 0 ≤ k) (h : s / 2 ^ m.toNat = 0) (hb : bitP s k) : k < m := by
  obtain ⟨x, rfl⟩ : ∃ x : Nat, s = x := ⟨s.toNat, by omega⟩
  obtain ⟨i, rfl⟩ : ∃ i : Nat, k = i := ⟨k.toNat, by omega⟩
  rw [bit_nat] at hb
  have e : (x : Int) / 2 ^ m.toNat = ((x / 2 ^ m.toNat : Nat) : Int) := by simp
  rw [e] at h
  have h' : x / 2 ^ m.toNat = 0 := by omega
  have hx : x < 2 ^ m.toNat := by
    rcases Nat.div_eq_zero_iff.mp h' with g | g
    · have := Nat.two_pow_pos m.toNat; omega
    · exact g
  refine Classical.byContradiction (fun g => ?_)
  have hle : 2 ^ m.toNat ≤ 2 ^ i := Nat.pow_le_pow_right (by omega) (by omega)
  rw [Nat.testBit_lt_two_pow (by omega)] at hb
  cases hb
def brP (a : Ab) (d s : Int) : Prop := ∀ k : Int, 0 ≤ k → k < 12 → bitP s k → isP a d k
theorem e_areAllPlain (W : WFA a) (R : ICR σ a) (hd : inD d) {s : Int} (s0 : 0 ≤ s) (s1 : s < 4096) (hm : ∀ k : Int, 0 ≤ k → bitP s k → k < a.many d) : f_D_areAllPlain σ (dP d) s = some (bI (brP a d s)) := by
  have mb := many_b W hd
  have L : ∀ (F : Nat) (k : Int), 0 ≤ k → k ≤ 12 → 12 - k < F → (∀ j : Int, 0 ≤ j → j < k → bitP s j → isP a d j) → f_D_areAllPlain_2 σ (dP d) s F k = some (bI (brP a d s)) := by
    intro F
    induction F with
    | zero => intro k k0 k1 hF; omega
    | succ F ih =>
      intro k k0 k1 hF hj
      rw [f_D_areAllPlain_2]
      apply ok_eq
      refine ok_ite (fun g => ok_grd (by omega) (ok_some (bI_t (fun j j0 j1 hb => hj j j0 (by omega) hb)).symm)) (fun g => ?_)
      by_cases hb : bitP s k
      · rw [if_neg (fun q => q ((sb_1 s0 s1 k0 (by omega)).mpr hb))]
        refine ok_eqb (r_plain W R hd ⟨k0, hm k k0 hb⟩) ?_
        by_cases hp : isP a d k
        · rw [bI_t hp, if_pos (by omega)]
          refine ok_grd (by (first | omega | (unfold r32; omega) | (unfold r64; omega) | (simp only [r32, r64] at *; omega))) (eq_ok (ih (k + 1) (by omega) (by omega) (by omega) (fun j j0 j1 hb' => ?_)) rfl)
          by_cases z : j = k
          · rw [z]; exact hp
          · exact hj j j0 (by omega) hb'
        · rw [bI_f hp, if_neg (by omega)]
          exact ok_grd (by omega) (ok_some (bI_f (fun q => hp (q k k0 (by omega) hb))).symm)
      · rw [if_pos (fun q => hb ((sb_1 s0 s1 k0 (by omega)).mp q))]
        refine ok_grd (by (first | omega | (unfold r32; omega) | (unfold r64; omega) | (simp only [r32, r64] at *; omega))) (eq_ok (ih (k + 1) (by omega) (by omega) (by omega) (fun j j0 j1 hb' => ?_)) rfl)
        by_cases z : j = k
        · rw [z] at hb'; exact absurd hb' hb
        · exact hj j j0 (by omega) hb'
  exact L zFuel 0 (by omega) (by omega) (by unfold zFuel; omega) (fun j j0 j1 => by omega)
theorem iand_00 : iand 0 0 = 0 ∧ iand 0 1 = 0 ∧ iand 1 0 = 0 ∧ iand 1 1 = 1 := by decide +kernel
theorem pcF_s (x k : Nat) : pcF x (k + 1) = pcF x k + (x / 2 ^ k) % 2 := rfl
end
