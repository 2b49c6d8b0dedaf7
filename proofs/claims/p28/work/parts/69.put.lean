/-! ===== facts change ===== -/
section
variable {σ : Hp} {a b : Ab} {n : Nat} {B : Int} {e : Nat}
/-- b differs from a in facts alone -/
def FB (a b : Ab) : Prop := sfx a b ∧ spk a b ∧ swd a b ∧ (∀ q : Nat, 155 ≤ q → q ≤ 159 → b q = a q) ∧ b.saved = a.saved ∧ b 162 = a 162 ∧ b.keeps = a.keeps ∧ b.hits = a.hits
theorem FB_13 (W : WFA a) (F : FB a b) : wfa b 13 ∧ wfa b 19 := by
  have h130 : b.many = a.many := F.1.1.1 130 (by omega)
  have h131 : b.kind = a.kind := F.1.1.1 131 (by omega)
  have m1 : b.mk = a.mk := F.1.2.1.1
  have m5 := F.1.2.1.2.2.2.2
  have h5 : b.st = a.st := F.2.2.2.1 155 (by omega) (by omega)
  have h6 : b.sa = a.sa := F.2.2.2.1 156 (by omega) (by omega)
  have h7 : b.sb = a.sb := F.2.2.2.1 157 (by omega) (by omega)
  have h8 : b.sm = a.sm := F.2.2.2.1 158 (by omega) (by omega)
  have h9 : b.sv = a.sv := F.2.2.2.1 159 (by omega) (by omega)
  have hs := F.2.2.2.2.1
  refine ⟨?_, ?_⟩
  · have := W 13; simp only [wfa, thr, isP, h130, h131, m1, m5, h5, h6, h7, h8, h9, hs] at this ⊢; exact this
  · have := W 19; simp only [wfa, h5, h6, h7, h8, hs] at this ⊢; exact this
theorem FB_W (W : WFA a) (F : FB a b) (h12 : wfa b 12) (h18 : wfa b 18) : WFA b := by
  have h2 := FB_13 W F
  refine WFA_all (wfa_s W F.1.1) (wfa_8 W F.1.2.2.1 F.1.2.2.2) (wfa_m W F.1.2.1) (fun k hk => ?_) (wfa_k W F.1.1 F.1.2.1.2.2.2.2 F.2.2.2.2.2.1 F.2.2.2.2.2.2.1) (wfa_p W F.1.1 F.2.1) (wfa_17 W (by unfold Ab.len; rw [F.2.2.1.2.2.2]))
  rcases hk with rfl | rfl | rfl | rfl
  · exact h12
  · exact h2.1
  · exact h18
  · exact h2.2
theorem dropP_c (S : sfx a b) (pt px py fm c : Int) : dropP b pt px py fm c ↔ dropP a pt px py fm c := by
  simp only [dropP, lead_c S.1, nds_c S.2.1, cnt_c S.1 S.2.2]
theorem stay_c (S : sfx a b) (pt px py fm : Int) (f : Int → Int) : stay (dropP b pt px py fm) f = stay (dropP a pt px py fm) f := by
  funext i
  unfold stay
  by_cases h : dropP a pt px py fm (f i)
  · rw [if_pos h, if_pos ((dropP_c S pt px py fm _).mpr h)]
  · rw [if_neg h, if_neg (fun q => h ((dropP_c S pt px py fm _).mp q))]
theorem drA_W (W : WFA a) (pt px py fm : Int) : WFA (drA a pt px py fm) := by
  have h14 : 0 ≤ a.keeps ∧ a.keeps ≤ 20 ∧ _ := W 14
  have L := drA_l W pt px py fm
  have e2 : (drS (dropP a pt px py fm) a.keeps.toNat a.kept a.keeps).2 = nC (stay (dropP a pt px py fm) a.kept) a.keeps.toNat := by
    have := L.1; unfold drA at this; rw [sA_k] at this; exact this
  have nb := nC_b (stay (dropP a pt px py fm) a.kept) a.keeps.toNat
  unfold drA
  refine sA_W W (by rw [e2]; omega) (by rw [e2]; omega) (fun j j0 j1 => ?_)
  rw [e2] at j1
  obtain ⟨i, i1, i2, i3⟩ := nC_sur a.keeps.toNat j j0 j1
  have g := L.2 i (by omega) i2
  unfold drA at g
  rw [sA_g, i3] at g
  rw [g]; exact wk_k W (by omega) (by omega)
theorem drA_K (K : WFW a) (pt px py fm : Int) : WFW (drA a pt px py fm) := WFW_s K sA_D sA_S
theorem rowsK_of (W : WFA a) (R : ICK σ a) : rowsK σ a a.kept a.keeps := by
  intro i i0 i1
  obtain ⟨t, x, y, m, q1, q2, q3, q4⟩ := wk_k W i0 i1
  have g := (show ∀ k : Int, 0 ≤ k → k < a.keeps → ∀ t x y m : Int, thr a 0 t → thr a 1 x → thr a 2 y → 0 ≤ m → m < a.measures → a.kept k = 576 * t + 48 * x + 4 * y + m → σ 109 k = 144 * t + 12 * x + y ∧ σ 110 k = m ∧ σ 111 k = val a m t x y from R 1) i i0 i1 t x y m q1.1 q1.2.1 q1.2.2 q2 q3 q4
  exact ⟨t, x, y, m, q1, q2, q3, q4, g.1, g.2.1⟩
theorem rowsK_c (S : sfx a b) {kp : Int → Int} {k : Int} (H : rowsK σ a kp k) : rowsK σ b kp k := by
  have h130 : b.many = a.many := S.1.1 130 (by omega)
  have hm := S.2.1.2.2.2.2
  intro i i0 i1
  obtain ⟨t, x, y, m, q1, q2, q3, q4, q5, q6⟩ := H i i0 i1
  exact ⟨t, x, y, m, ⟨by simp only [thr, h130]; exact q1.1, by simp only [thr, h130]; exact q1.2.1, by simp only [thr, h130]; exact q1.2.2⟩, q2, by rw [hm]; exact q3, q4, q5, q6⟩
/-- the class, where facts changed and kept cells were dropped -/
theorem IC_fc (W : WFA a) (I : IC σ a n B) (F : FB a b) (Wb : WFA b) (Kb : WFW b) {pt px py fm : Int} {s : Hp} (E : ∀ q : Nat, q < 101 ∨ 111 < q → s q = σ q) (hF : ICF s b) (d1 : s 108 1 = σ 108 1) (d2 : s 108 0 = nC (stay (dropP b pt px py fm) a.kept) a.keeps.toNat) (d3 : ∀ i : Nat, (i : Int) < a.keeps → stay (dropP b pt px py fm) a.kept i ≠ 0 → s 109 (nC (stay (dropP b pt px py fm) a.kept) i) = σ 109 i ∧ s 110 (nC (stay (dropP b pt px py fm) a.kept) i) = σ 110 i ∧ s 111 (nC (stay (dropP b pt px py fm) a.kept) i) = σ 111 i) (hv : ∀ t x y m : Int, cin a t x y → 0 ≤ m → m < a.measures → ¬ dropP b pt px py fm (576 * t + 48 * x + 4 * y + m) → val b m t x y = val a m t x y) : IC s (drA b pt px py fm) n B := by
  obtain ⟨R, IK, IW, I9⟩ := IC_r I
  have hh := hit_e IK
  have h14 : 0 ≤ a.keeps ∧ a.keeps ≤ 20 ∧ _ := W 14
  have L := drA_l Wb pt px py fm
  have hkb : b.kept = a.kept := F.2.2.2.2.2.1
  have hcb : b.keeps = a.keeps := F.2.2.2.2.2.2.1
  rw [hkb, hcb] at L
  have S2 : smem a (drA b pt px py fm) := ⟨fun q hq => (sA_S.1 q hq).trans (F.1.1.1 q hq), sA_S.2.trans F.1.1.2⟩
  have P2 : spk a (drA b pt px py fm) := ⟨sA_P.1.trans F.2.1.1, sA_P.2.1.trans F.2.1.2.1, sA_P.2.2.trans F.2.1.2.2⟩
  have M2 : smea a (drA b pt px py fm) := ⟨sA_M.1.trans F.1.2.1.1, sA_M.2.1.trans F.1.2.1.2.1, sA_M.2.2.1.trans F.1.2.1.2.2.1, sA_M.2.2.2.1.trans F.1.2.1.2.2.2.1, sA_M.2.2.2.2.trans F.1.2.1.2.2.2.2⟩
  have D2 : swd a (drA b pt px py fm) := ⟨sA_D.1.trans F.2.2.1.1, sA_D.2.1.trans F.2.2.1.2.1, sA_D.2.2.1.trans F.2.2.1.2.2.1, sA_D.2.2.2.trans F.2.2.1.2.2.2⟩
  refine IC_mk (ICR_pm W S2 P2 ⟨sA_h.1.1.trans F.1.2.2.1, sA_h.1.2.trans F.1.2.2.2⟩ (fun q hq => E q (by omega)) (ICM_s M2 (ICM_e (fun q h1 h2 => E q (by omega)) R.2.2.2.2.2.1)) (ICF_s sA_F hF) R) (fun k => ?_) (ICW_s D2 S2 (ICW_f (fun q hq => E q (by omega)) IW)) ?_
  · match k with
    | 0 =>
      refine (show s 108 0 = Ab.keeps (drA b pt px py fm) ∧ s 108 1 = Ab.hits (drA b pt px py fm) from ⟨by rw [d2, L.1], ?_⟩)
      have : Ab.hits (drA b pt px py fm) = b.hits := sA_h.2
      rw [this, F.2.2.2.2.2.2.2, d1, hh.2]
    | 1 =>
      intro k k0 k1 t x y m ht hx hy m0 m1 ek
      rw [L.1] at k1
      obtain ⟨i, i1, i2, i3⟩ := nC_sur a.keeps.toNat k k0 k1
      have g := L.2 i (by omega) i2
      rw [i3] at g
      rw [g] at ek
      have d := d3 i (by omega) i2
      rw [i3] at d
      have h130 : Ab.many (drA b pt px py fm) = a.many := S2.1 130 (by omega)
      simp only [thr, h130] at ht hx hy
      rw [M2.2.2.2.2] at m1
      have G := (show ∀ k : Int, 0 ≤ k → k < a.keeps → ∀ t x y m : Int, thr a 0 t → thr a 1 x → thr a 2 y → 0 ≤ m → m < a.measures → a.kept k = 576 * t + 48 * x + 4 * y + m → σ 109 k = 144 * t + 12 * x + y ∧ σ 110 k = m ∧ σ 111 k = val a m t x y from IK 1) i (by omega) (by omega) t x y m ht hx hy m0 m1 ek
      have hb130 : b.many = a.many := F.1.1.1 130 (by omega)
      have cb : cin b t x y := ⟨by simp only [thr, hb130]; exact ht, by simp only [thr, hb130]; exact hx, by simp only [thr, hb130]; exact hy⟩
      have nd := stay_n i2
      rw [ek] at nd
      have ev : val (drA b pt px py fm) m t x y = val a m t x y := (val_cc Wb Kb sA_V cb).trans (hv t x y m ⟨ht, hx, hy⟩ m0 m1 nd)
      rw [d.1, d.2.1, d.2.2, ev]
      exact G
    | _ + 2 => trivial
  · unfold ic9 at I9 ⊢; rw [E 116 (by omega), E 117 (by omega)]; exact I9
theorem nd_val (W : WFA a) {pt px py fm t x y m : Int} (h : cin a t x y) (m0 : 0 ≤ m) (m1 : m < a.measures) (hd : ¬ dropP a pt px py fm (576 * t + 48 * x + 4 * y + m)) : lead a t x y = -1 ∧ ¬ (nds a m fm ∧ cnt a pt px py t x y ≠ 0) := by
  have t12 := thr12 W iD0 h.1
  have x12 := thr12 W iD1 h.2.1
  have y12 := thr12 W iD2 h.2.2
  have m4 := (mea W m0 m1).1
  unfold dropP at hd
  rw [show (576 * t + 48 * x + 4 * y + m) / 576 = t by omega, show (576 * t + 48 * x + 4 * y + m) / 48 % 12 = x by omega, show (576 * t + 48 * x + 4 * y + m) / 4 % 12 = y by omega, show (576 * t + 48 * x + 4 * y + m) % 4 = m by omega] at hd
  refine ⟨?_, fun q => hd (Or.inr q)⟩
  rcases lead_d W h with l | l
  · exact l.1
  · exact absurd (Or.inl l.2.1) hd
/-! a number of a fact -/
def setA (a : Ab) (f v : Int) : Ab := hset a 154 f v
theorem sn_q {f v : Int} {q : Nat} (h : q ≠ 154) : setA a f v q = a q := hset_ne h
theorem sn_FB {f v : Int} : FB a (setA a f v) := ⟨⟨⟨fun q hq => sn_q (by omega), by unfold Ab.moves; rw [sn_q (by omega)]⟩, ⟨sn_q (by omega), sn_q (by omega), sn_q (by omega), sn_q (by omega), by unfold Ab.measures; rw [sn_q (by omega)]⟩, ⟨by unfold Ab.asNow; rw [sn_q (by omega)], by unfold Ab.leave; rw [sn_q (by omega)]⟩⟩, ⟨sn_q (by omega), sn_q (by omega), sn_q (by omega)⟩, ⟨sn_q (by omega), sn_q (by omega), sn_q (by omega), sn_q (by omega)⟩, fun q h1 h2 => sn_q (by omega), by unfold Ab.saved; rw [sn_q (by omega)], sn_q (by omega), by unfold Ab.keeps; rw [sn_q (by omega)], by unfold Ab.hits; rw [sn_q (by omega)]⟩
theorem sn_0 {f v : Int} : Ab.ft (setA a f v) = a.ft ∧ Ab.fa (setA a f v) = a.fa ∧ Ab.fb (setA a f v) = a.fb ∧ Ab.fm (setA a f v) = a.fm ∧ Ab.facts (setA a f v) = a.facts := ⟨sn_q (by omega), sn_q (by omega), sn_q (by omega), sn_q (by omega), by unfold Ab.facts; rw [sn_q (by omega)]⟩
theorem sn_v {f v : Int} (i : Int) : Ab.fv (setA a f v) i = if i = f then v else a.fv i := hs_if
theorem sn_W (W : WFA a) {f v : Int} (hv : -1000000 ≤ v ∧ v ≤ 1000000) : WFA (setA a f v) := by
  have h130 : Ab.many (setA a f v) = a.many := sn_q (by omega)
  have h131 : Ab.kind (setA a f v) = a.kind := sn_q (by omega)
  have h146 : Ab.mk (setA a f v) = a.mk := sn_q (by omega)
  have hm : Ab.measures (setA a f v) = a.measures := sn_FB.1.2.1.2.2.2.2
  obtain ⟨s0, s1, s2, s3, s4⟩ := sn_0 (a := a) (f := f) (v := v)
  refine FB_W W sn_FB ?_ ?_
  · have := W 12
    simp only [wfa, thr, isP, h130, h131, h146, hm, s0, s1, s2, s3, s4, sn_v] at this ⊢
    refine ⟨this.1, this.2.1, fun i i0 i1 => ?_⟩
    obtain ⟨g1, g2, g3, g4, g5, g6, g7, g8, g9, g10⟩ := this.2.2 i i0 i1
    refine ⟨g1, g2, g3, g4, g5, g6, g7, g8, g9, ?_⟩
    by_cases q : i = f
    · rw [if_pos q]; exact hv
    · rw [if_neg q]; exact g10
  · have := W 18; simp only [wfa, s0, s1, s2, s3, s4] at this ⊢; exact this
noncomputable def putA (a : Ab) (f v : Int) : Ab := if a.fv f = v then a else drA (setA a f v) (a.ft f) (a.fa f) (a.fb f) (a.fm f)
theorem putA_W (W : WFA a) (K : WFW a) {f v : Int} (hv : -1000000 ≤ v ∧ v ≤ 1000000) : WFA (putA a f v) ∧ WFW (putA a f v) ∧ (putA a f v).hits = a.hits := by
  unfold putA
  by_cases h : a.fv f = v
  · rw [if_pos h]; exact ⟨W, K, rfl⟩
  · rw [if_neg h]
    exact ⟨drA_W (sn_W W hv) _ _ _ _, drA_K (WFW_s K sn_FB.2.2.1 sn_FB.1.1) _ _ _ _, sA_h.2.trans sn_FB.2.2.2.2.2.2.2⟩
theorem putA_f {f v : Int} : Ab.ft (putA a f v) = a.ft ∧ Ab.fa (putA a f v) = a.fa ∧ Ab.fb (putA a f v) = a.fb ∧ Ab.fm (putA a f v) = a.fm ∧ Ab.facts (putA a f v) = a.facts ∧ ∀ i : Int, Ab.fv (putA a f v) i = if i = f then v else a.fv i := by
  unfold putA
  by_cases h : a.fv f = v
  · rw [if_pos h]
    refine ⟨rfl, rfl, rfl, rfl, rfl, fun i => ?_⟩
    by_cases q : i = f
    · rw [if_pos q, q, h]
    · rw [if_neg q]
  · rw [if_neg h]
    obtain ⟨s0, s1, s2, s3, s4⟩ := sn_0 (a := a) (f := f) (v := v)
    have dq : ∀ q : Nat, q ≠ 129 → q ≠ 162 → drA (setA a f v) (a.ft f) (a.fa f) (a.fb f) (a.fm f) q = setA a f v q := fun q h1 h2 => sA_q h1 h2
    have dj : drA (setA a f v) (a.ft f) (a.fa f) (a.fb f) (a.fm f) 129 29 = setA a f v 129 29 := sA_j (by omega)
    refine ⟨(dq 150 (by omega) (by omega)).trans s0, (dq 151 (by omega) (by omega)).trans s1, (dq 152 (by omega) (by omega)).trans s2, (dq 153 (by omega) (by omega)).trans s3, dj.trans s4, fun i => ?_⟩
    have : Ab.fv (drA (setA a f v) (a.ft f) (a.fa f) (a.fb f) (a.fm f)) = Ab.fv (setA a f v) := dq 154 (by omega) (by omega)
    rw [this]; exact sn_v i
theorem c_setNumber (W : WFA a) (K : WFW a) (I : IC σ a n B) {f v : Int} (f0 : 0 ≤ f) (f1 : f < a.facts) (hv : -1000000 ≤ v ∧ v ≤ 1000000) : Okk (f_C_setNumber σ f v) fun r => r.1 = (if a.fv f = v then 0 else 1) ∧ IC r.2 (putA a f v) n B ∧ ∀ q : Nat, q < 101 ∨ 111 < q → r.2 q = σ q := by
  obtain ⟨R, IK, IW, I9⟩ := IC_r I
  have hf := fct W f0 f1
  have rf := r_FR W R.2.2.2.2.2.2 f0 f1
  have h14 : 0 ≤ a.keeps ∧ a.keeps ≤ 20 ∧ _ := W 14
  have hF0 : σ 101 0 = a.facts ∧ ∀ f : Int, 0 ≤ f → f < a.facts → σ 102 f = 144 * a.ft f + 12 * a.fa f + a.fb f ∧ σ 103 f = a.fm f ∧ σ 104 f = a.fv f := R.2.2.2.2.2.2 0
  unfold f_C_setNumber putA
  refine ok_eqb rf.2.2 ?_
  by_cases h : a.fv f = v
  · rw [if_neg (fun q => q h), if_pos h, if_pos h]
    exact ok_grd (by omega) (ok_some ⟨rfl, I, fun _ _ => rfl⟩)
  · rw [if_pos h, if_neg h, if_neg h]
    have Wb := sn_W W (f := f) hv
    have Kb : WFW (setA a f v) := WFW_s K sn_FB.2.2.1 sn_FB.1.1
    obtain ⟨s0, s1, s2, s3, s4⟩ := sn_0 (a := a) (f := f) (v := v)
    refine ok_eqb (v := hset σ 104 f v) ?_ ?_
    · unfold f_FR_setNumber; apply ok_eq
      refine ok_eqb (e_FR_has σ f) ?_
      rw [hF0.1, bI_t ⟨f0, f1, hf.2.2.2.2.2.2.2.2⟩, if_neg (by omega)]
      exact ok_bind (ok_grd ⟨f0, hf.2.2.2.2.2.2.2.2⟩ (ok_some (ok_some rfl)))
    have E : ∀ q : Nat, q ≠ 104 → hset σ 104 f v q = σ q := fun q hq => hset_ne hq
    have hFs : ICF (hset σ 104 f v) (setA a f v) := by
      intro k
      have g := R.2.2.2.2.2.2 k
      have s5 : Ab.st (setA a f v) = a.st := sn_q (by omega)
      have s6 : Ab.sa (setA a f v) = a.sa := sn_q (by omega)
      have s7 : Ab.sb (setA a f v) = a.sb := sn_q (by omega)
      have s8 : Ab.sm (setA a f v) = a.sm := sn_q (by omega)
      have s9 : Ab.sv (setA a f v) = a.sv := sn_q (by omega)
      have ss : Ab.saved (setA a f v) = a.saved := sn_FB.2.2.2.2.1
      match k, g with
      | 0, g =>
        simp only [icf, s0, s1, s2, s3, s4, sn_v, E 101 (by omega), E 102 (by omega), E 103 (by omega), hs_if] at g ⊢
        refine ⟨g.1, fun i i0 i1 => ?_⟩
        have gi := g.2 i i0 i1
        refine ⟨gi.1, gi.2.1, ?_⟩
        by_cases q : i = f
        · rw [if_pos q, if_pos q]
        · rw [if_neg q, if_neg q]; exact gi.2.2
      | 1, g => simp only [icf, ss, E 101 (by omega)] at g ⊢; exact g
      | 2, g => simp only [icf, ss, s5, s6, s7, s8, s9, E 101 (by omega), E 105 (by omega), E 106 (by omega), E 107 (by omega)] at g ⊢; exact g
      | _ + 3, _ => trivial
    have Rb : ICR (hset σ 104 f v) (setA a f v) := ICR_pm W sn_FB.1.1 sn_FB.2.1 sn_FB.1.2.2 (fun q hq => E q (by omega)) (ICM_s sn_FB.1.2.1 (ICM_e (fun q _ _ => E q (by omega)) R.2.2.2.2.2.1)) hFs R
    have rb := r_FR Wb hFs (f := f) f0 (by rw [s4]; exact f1)
    rw [s0, s1, s2, s3] at rb
    refine ok_eqb rb.2.1 (ok_eqb rb.1 ?_)
    have h130 : Ab.many (setA a f v) = a.many := sn_q (by omega)
    have h131 : Ab.kind (setA a f v) = a.kind := sn_q (by omega)
    have hm : Ab.measures (setA a f v) = a.measures := sn_FB.1.2.1.2.2.2.2
    have e108 : (hset σ 104 f v) 108 0 = ((a.keeps.toNat : Nat) : Int) := by rw [E 108 (by omega), (hit_e IK).1]; omega
    have rk : rowsK (hset σ 104 f v) (setA a f v) a.kept a.keeps.toNat := by
      have := rowsK_c (b := setA a f v) sn_FB.1 (rowsK_of W IK)
      intro i i0 i1
      rw [E 109 (by omega), E 110 (by omega)]
      exact this i i0 (by omega)
    refine ok_call (c_dropFor Wb Rb e108 (by omega) rk (pt := a.ft f) (px := a.fa f) (py := a.fb f) (fm := a.fm f) ⟨by simp only [thr, h130]; exact hf.1.1, by simp only [thr, h130]; exact hf.2.1.1, by simp only [thr, h130]; exact hf.2.2.1.1⟩ (by simp only [isP, h131]; exact ⟨hf.1.2, hf.2.1.2, hf.2.2.1.2⟩) hf.2.2.2.1 (by rw [hm]; exact hf.2.2.2.2.1)) ?_
    rintro s ⟨d0, d1, d2, d3⟩
    refine ok_grd (by omega) (ok_some ⟨rfl, ?_, fun q hq => ?_⟩)
    · dsimp only
      refine IC_fc W I sn_FB Wb Kb (fun q hq => ?_) (ICF_e (fun q h1 h2 => d0 q (by omega)) hFs) (by rw [d1, E 108 (by omega)]) d2 (fun i hi hs => ?_) (fun t x y m hc m0 m1 hd => ?_)
      · rw [d0 q (by omega), E q (by omega)]
      · have := d3 i (by omega) hs
        rw [E 109 (by omega), E 110 (by omega), E 111 (by omega)] at this
        exact this
      · rw [dropP_c sn_FB.1] at hd
        have nv := nd_val W hc m0 m1 hd
        refine val_i W sn_FB.1 m0 m1 nv.1 (fun m' q0 q1 q2 => pln_A sn_FB.1 s0 s1 s2 s3 (fun i hi => by rw [sn_v, if_neg hi]) s4 ?_)
        unfold cnf
        by_cases z : a.fm f = m'
        · rw [if_pos z]
          by_cases z2 : cnt a (a.ft f) (a.fa f) (a.fb f) t x y = 0
          · exact z2
          · exact absurd ⟨by rw [z]; exact q2, z2⟩ nv.2
        · rw [if_neg z]
    · dsimp only; rw [d0 q (by omega), E q (by omega)]
theorem Vw_same {q : Nat} {i v : Int} (V : Vw σ a) (h : a q i = v) : Vw (hset σ q i v) a := by
  intro r j hr
  by_cases e : r = q ∧ j = i
  · obtain ⟨rfl, rfl⟩ := e; rw [hs_eq]; exact h.symm
  · have : hset σ q i v r j = σ r j := if_neg e
    rw [this]; exact V r j hr
/-- what a fact's change may touch in the reference -/
def pcg (σ σ' : Hp) : Prop := (∀ q : Nat, q < 129 ∨ 169 < q ∨ q = 161 ∨ q = 160 ∨ q = 166 ∨ q = 167 ∨ q = 168 ∨ q = 169 → σ' q = σ q) ∧ σ' 129 46 = σ 129 46 ∧ σ' 129 50 = σ 129 50 ∧ σ 129 38 ≤ σ' 129 38 ∧ σ' 129 38 ≤ σ 129 38 + 1
/-! a fact more -/
def addA (a : Ab) (pt px py m v : Int) : Ab := hset (hset (hset (hset (hset (hset a 150 a.facts pt) 151 a.facts px) 152 a.facts py) 153 a.facts m) 154 a.facts v) 129 29 (a.facts + 1)
section
variable {pt px py m v : Int}
theorem ad_q {q : Nat} (h : q < 129 ∨ (129 < q ∧ q < 150) ∨ 154 < q) : addA a pt px py m v q = a q := by unfold addA; rw [hset_ne (by omega), hset_ne (by omega), hset_ne (by omega), hset_ne (by omega), hset_ne (by omega), hset_ne (by omega)]
theorem ad_j {j : Int} (h : j ≠ 29) : addA a pt px py m v 129 j = a 129 j := by unfold addA; rw [hs_nj h, hset_ne (by omega), hset_ne (by omega), hset_ne (by omega), hset_ne (by omega), hset_ne (by omega)]
theorem ad_n : Ab.facts (addA a pt px py m v) = a.facts + 1 := by unfold Ab.facts addA; exact hs_eq
theorem ad_f (i : Int) : Ab.ft (addA a pt px py m v) i = (if i = a.facts then pt else a.ft i) ∧ Ab.fa (addA a pt px py m v) i = (if i = a.facts then px else a.fa i) ∧ Ab.fb (addA a pt px py m v) i = (if i = a.facts then py else a.fb i) ∧ Ab.fm (addA a pt px py m v) i = (if i = a.facts then m else a.fm i) ∧ Ab.fv (addA a pt px py m v) i = (if i = a.facts then v else a.fv i) := by
  unfold Ab.ft Ab.fa Ab.fb Ab.fm Ab.fv addA
  refine ⟨?_, ?_, ?_, ?_, ?_⟩
  · rw [hset_ne (by omega), hset_ne (by omega), hset_ne (by omega), hset_ne (by omega), hset_ne (by omega)]; exact hs_if
  · rw [hset_ne (by omega), hset_ne (by omega), hset_ne (by omega), hset_ne (by omega), hs_if, hset_ne (by omega)]
  · rw [hset_ne (by omega), hset_ne (by omega), hset_ne (by omega), hs_if, hset_ne (by omega), hset_ne (by omega)]
  · rw [hset_ne (by omega), hset_ne (by omega), hs_if, hset_ne (by omega), hset_ne (by omega), hset_ne (by omega)]
  · rw [hset_ne (by omega), hs_if, hset_ne (by omega), hset_ne (by omega), hset_ne (by omega), hset_ne (by omega)]
theorem ad_FB : FB a (addA a pt px py m v) := ⟨⟨⟨fun q hq => ad_q (by omega), ad_j (by omega)⟩, ⟨ad_q (by omega), ad_q (by omega), ad_q (by omega), ad_q (by omega), ad_j (by omega)⟩, ⟨ad_j (by omega), ad_j (by omega)⟩⟩, ⟨ad_q (by omega), ad_q (by omega), ad_q (by omega)⟩, ⟨ad_q (by omega), ad_q (by omega), ad_q (by omega), ad_q (by omega)⟩, fun q h1 h2 => ad_q (by omega), ad_j (by omega), ad_q (by omega), ad_j (by omega), ad_j (by omega)⟩
end
/-- this may be a fact's place, and is none's yet -/
def newF (a : Ab) (pt px py m v : Int) : Prop := cin a pt px py ∧ (isP a 0 pt ∧ isP a 1 px ∧ isP a 2 py) ∧ (0 ≤ m ∧ m < a.measures ∧ a.mk m ≠ 3) ∧ (-1000000 ≤ v ∧ v ≤ 1000000) ∧ a.facts < 50 ∧ ∀ f : Int, 0 ≤ f → f < a.facts → ¬ (a.ft f = pt ∧ a.fa f = px ∧ a.fb f = py ∧ a.fm f = m)
theorem ad_W (W : WFA a) {pt px py m v : Int} (N : newF a pt px py m v) : WFA (addA a pt px py m v) := by
  have h130 : Ab.many (addA a pt px py m v) = a.many := ad_q (by omega)
  have h131 : Ab.kind (addA a pt px py m v) = a.kind := ad_q (by omega)
  have h146 : Ab.mk (addA a pt px py m v) = a.mk := ad_q (by omega)
  have hm : Ab.measures (addA a pt px py m v) = a.measures := ad_j (by omega)
  obtain ⟨n1, n2, n3, n4, n5, n6⟩ := N
  refine FB_W W ad_FB ?_ ?_
  · have := W 12
    simp only [wfa, thr, isP, h130, h131, h146, hm, ad_n] at this ⊢
    refine ⟨by omega, by omega, fun i i0 i1 => ?_⟩
    obtain ⟨f0, f1, f2, f3, f4⟩ := ad_f (a := a) (pt := pt) (px := px) (py := py) (m := m) (v := v) i
    rw [f0, f1, f2, f3, f4]
    by_cases q : i = a.facts
    · rw [if_pos q, if_pos q, if_pos q, if_pos q, if_pos q]
      exact ⟨n1.1, n2.1, n1.2.1, n2.2.1, n1.2.2, n2.2.2, n3.1, n3.2.1, n3.2.2, n4⟩
    · rw [if_neg q, if_neg q, if_neg q, if_neg q, if_neg q]; exact this.2.2 i i0 (by omega)
  · have h18 : ∀ f g : Int, 0 ≤ f → f < a.facts → 0 ≤ g → g < a.facts → a.ft f = a.ft g → a.fa f = a.fa g → a.fb f = a.fb g → a.fm f = a.fm g → f = g := W 18
    intro f g
    rw [ad_n]
    obtain ⟨f0, f1, f2, f3, f4⟩ := ad_f (a := a) (pt := pt) (px := px) (py := py) (m := m) (v := v) f
    obtain ⟨g0, g1, g2, g3, g4⟩ := ad_f (a := a) (pt := pt) (px := px) (py := py) (m := m) (v := v) g
    rw [f0, f1, f2, f3, g0, g1, g2, g3]
    intro a0 a1 b0 b1 e0 e1 e2 e3
    by_cases q : f = a.facts
    · by_cases p : g = a.facts
      · omega
      · rw [if_pos q, if_neg p] at e0 e1 e2 e3
        exact absurd ⟨e0.symm, e1.symm, e2.symm, e3.symm⟩ (n6 g b0 (by omega))
    · by_cases p : g = a.facts
      · rw [if_neg q, if_pos p] at e0 e1 e2 e3
        exact absurd ⟨e0, e1, e2, e3⟩ (n6 f a0 (by omega))
      · rw [if_neg q, if_neg p] at e0 e1 e2 e3
        exact h18 f g a0 (by omega) b0 (by omega) e0 e1 e2 e3
theorem c_add (W : WFA a) (K : WFW a) (I : IC σ a n B) {pt px py m v : Int} (N : newF a pt px py m v) : Okk ((f_FR_add σ (clq pt px py) m v).bind fun v29 => (f_C_dropFor v29 (clq pt px py) m).bind fun v31 => some v31) fun s => IC s (drA (addA a pt px py m v) pt px py m) n B ∧ (∀ q : Nat, q < 101 ∨ 111 < q → s q = σ q) ∧ s 101 0 = a.facts + 1 := by
  obtain ⟨R, IK, IW, I9⟩ := IC_r I
  have h14 : 0 ≤ a.keeps ∧ a.keeps ≤ 20 ∧ _ := W 14
  have h12 : 0 ≤ a.facts ∧ a.facts ≤ 50 ∧ _ := W 12
  have hF0 : σ 101 0 = a.facts ∧ ∀ f : Int, 0 ≤ f → f < a.facts → σ 102 f = 144 * a.ft f + 12 * a.fa f + a.fb f ∧ σ 103 f = a.fm f ∧ σ 104 f = a.fv f := R.2.2.2.2.2.2 0
  have Wb := ad_W W N
  obtain ⟨n1, n2, n3, n4, n5, n6⟩ := N
  have Kb : WFW (addA a pt px py m v) := WFW_s K ad_FB.2.2.1 ad_FB.1.1
  refine ok_eqb (v := hset (hset (hset (hset σ 102 a.facts (clq pt px py)) 103 a.facts m) 104 a.facts v) 101 0 (a.facts + 1)) ?_ ?_
  · unfold f_FR_add; apply ok_eq
    rw [hF0.1, if_neg (by omega)]
    have e1 : (hset σ 102 a.facts (clq pt px py)) 101 0 = a.facts := by rw [hset_ne (by omega)]; exact hF0.1
    rw [e1]
    have e2 : (hset (hset σ 102 a.facts (clq pt px py)) 103 a.facts m) 101 0 = a.facts := by rw [hset_ne (by omega)]; exact e1
    rw [e2]
    have e3 : (hset (hset (hset σ 102 a.facts (clq pt px py)) 103 a.facts m) 104 a.facts v) 101 0 = a.facts := by rw [hset_ne (by omega)]; exact e2
    rw [e3]
    exact ok_bind (ok_grd (by omega) (ok_grd (by omega) (ok_grd (by omega) (ok_grd (by (first | omega | (unfold r32; omega) | (unfold r64; omega) | (simp only [r32, r64] at *; omega))) (ok_some (ok_some rfl))))))
  generalize hs : hset (hset (hset (hset σ 102 a.facts (clq pt px py)) 103 a.facts m) 104 a.facts v) 101 0 (a.facts + 1) = s
  have E : ∀ q : Nat, q < 101 ∨ 104 < q → s q = σ q := fun q hq => by subst hs; rw [hset_ne (by omega), hset_ne (by omega), hset_ne (by omega), hset_ne (by omega)]
  have e101 : s 101 0 = a.facts + 1 := by subst hs; exact hs_eq
  have e101' : ∀ j : Int, j ≠ 0 → s 101 j = σ 101 j := fun j hj => by subst hs; rw [hs_nj hj, hset_ne (by omega), hset_ne (by omega), hset_ne (by omega)]
  have e102 : ∀ i : Int, s 102 i = if i = a.facts then clq pt px py else σ 102 i := fun i => by subst hs; rw [hset_ne (by omega), hset_ne (by omega), hset_ne (by omega)]; exact hs_if
  have e103 : ∀ i : Int, s 103 i = if i = a.facts then m else σ 103 i := fun i => by subst hs; rw [hset_ne (by omega), hset_ne (by omega), hs_if, hset_ne (by omega)]
  have e104 : ∀ i : Int, s 104 i = if i = a.facts then v else σ 104 i := fun i => by subst hs; rw [hset_ne (by omega), hs_if, hset_ne (by omega), hset_ne (by omega)]
  have hFs : ICF s (addA a pt px py m v) := by
    intro k
    have g := R.2.2.2.2.2.2 k
    have s5 : Ab.st (addA a pt px py m v) = a.st := ad_q (by omega)
    have s6 : Ab.sa (addA a pt px py m v) = a.sa := ad_q (by omega)
    have s7 : Ab.sb (addA a pt px py m v) = a.sb := ad_q (by omega)
    have s8 : Ab.sm (addA a pt px py m v) = a.sm := ad_q (by omega)
    have s9 : Ab.sv (addA a pt px py m v) = a.sv := ad_q (by omega)
    have ss : Ab.saved (addA a pt px py m v) = a.saved := ad_j (by omega)
    match k, g with
    | 0, g =>
      refine (show s 101 0 = Ab.facts (addA a pt px py m v) ∧ _ from ⟨by rw [e101, ad_n], fun i i0 i1 => ?_⟩)
      rw [ad_n] at i1
      obtain ⟨f0, f1, f2, f3, f4⟩ := ad_f (a := a) (pt := pt) (px := px) (py := py) (m := m) (v := v) i
      rw [f0, f1, f2, f3, f4, e102, e103, e104]
      by_cases q : i = a.facts
      · rw [if_pos q, if_pos q, if_pos q, if_pos q, if_pos q, if_pos q, if_pos q, if_pos q]; exact ⟨rfl, rfl, rfl⟩
      · rw [if_neg q, if_neg q, if_neg q, if_neg q, if_neg q, if_neg q, if_neg q, if_neg q]; exact hF0.2 i i0 (by omega)
    | 1, g => simp only [icf, ss, e101' 2 (by omega)] at g ⊢; exact g
    | 2, g => simp only [icf, ss, s5, s6, s7, s8, s9, e101' 1 (by omega), E 105 (by omega), E 106 (by omega), E 107 (by omega)] at g ⊢; exact g
    | _ + 3, _ => trivial
  have Rb : ICR s (addA a pt px py m v) := ICR_pm W ad_FB.1.1 ad_FB.2.1 ad_FB.1.2.2 (fun q hq => E q (by omega)) (ICM_s ad_FB.1.2.1 (ICM_e (fun q _ _ => E q (by omega)) R.2.2.2.2.2.1)) hFs R
  have h130 : Ab.many (addA a pt px py m v) = a.many := ad_q (by omega)
  have h131 : Ab.kind (addA a pt px py m v) = a.kind := ad_q (by omega)
  have hm : Ab.measures (addA a pt px py m v) = a.measures := ad_j (by omega)
  have e108 : s 108 0 = ((a.keeps.toNat : Nat) : Int) := by rw [E 108 (by omega), (hit_e IK).1]; omega
  have rk : rowsK s (addA a pt px py m v) a.kept a.keeps.toNat := by
    have := rowsK_c (b := addA a pt px py m v) ad_FB.1 (rowsK_of W IK)
    intro i i0 i1
    rw [E 109 (by omega), E 110 (by omega)]
    exact this i i0 (by omega)
  refine ok_call (c_dropFor Wb Rb e108 (by omega) rk (pt := pt) (px := px) (py := py) (fm := m) ⟨by simp only [thr, h130]; exact n1.1, by simp only [thr, h130]; exact n1.2.1, by simp only [thr, h130]; exact n1.2.2⟩ (by simp only [isP, h131]; exact n2) n3.1 (by rw [hm]; exact n3.2.1)) ?_
  rintro t ⟨d0, d1, d2, d3⟩
  refine ok_some ⟨?_, fun q hq => by rw [d0 q (by omega), E q (by omega)], by rw [d0 101 (by omega), e101]⟩
  refine IC_fc W I ad_FB Wb Kb (fun q hq => by rw [d0 q (by omega), E q (by omega)]) (ICF_e (fun q h1 h2 => d0 q (by omega)) hFs) (by rw [d1, E 108 (by omega)]) d2 (fun i hi hs => ?_) (fun t x y m' hc m0 m1 hd => ?_)
  · have := d3 i (by omega) hs
    rw [E 109 (by omega), E 110 (by omega), E 111 (by omega)] at this
    exact this
  · rw [dropP_c ad_FB.1] at hd
    have nv := nd_val W hc m0 m1 hd
    obtain ⟨f0, f1, f2, f3, f4⟩ := ad_f (a := a) (pt := pt) (px := px) (py := py) (m := m) (v := v) a.facts
    refine val_i W ad_FB.1 m0 m1 nv.1 (fun m'' q0 q1 q2 => pln_B W ad_FB.1 (fun i hi => ?_) ad_n ?_)
    · obtain ⟨f0, f1, f2, f3, f4⟩ := ad_f (a := a) (pt := pt) (px := px) (py := py) (m := m) (v := v) i
      rw [f0, f1, f2, f3, f4, if_neg hi, if_neg hi, if_neg hi, if_neg hi, if_neg hi]; exact ⟨rfl, rfl, rfl, rfl, rfl⟩
    · unfold cnf
      rw [f0, f1, f2, f3, if_pos rfl, if_pos rfl, if_pos rfl, if_pos rfl, cnt_c ad_FB.1.1 ad_FB.1.2.2]
      by_cases z : m = m''
      · rw [if_pos z]
        by_cases z2 : cnt a pt px py t x y = 0
        · exact z2
        · exact absurd ⟨by rw [z]; exact q2, z2⟩ nv.2
      · rw [if_neg z]
theorem TKs_dr {a : Ab} {pt px py fm : Int} : TKs a (drA a pt px py fm) := by unfold drA; exact TKs_s sA_S sA_M.2.2.2.2 sA_h.2
theorem TKs_ad {a : Ab} {pt px py m v : Int} : TKs a (addA a pt px py m v) := TKs_s ad_FB.1.1 ad_FB.1.2.1.2.2.2.2 ad_FB.2.2.2.2.2.2.2
theorem TKs_put {a : Ab} {f v : Int} : TKs a (putA a f v) := by
  unfold putA
  by_cases h : a.fv f = v
  · rw [if_pos h]; exact TKs_r a
  · rw [if_neg h]; exact TKs_tr (TKs_s sn_FB.1.1 sn_FB.1.2.1.2.2.2.2 sn_FB.2.2.2.2.2.2.2) TKs_dr
end
