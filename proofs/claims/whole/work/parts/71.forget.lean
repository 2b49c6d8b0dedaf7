/-! ===== forget ===== -/
section
variable {σ : Hp} {a b : Ab} {n : Nat} {B : Int} {e : Nat}
def remA (a : Ab) (f : Int) : Ab := fun q j => if 150 ≤ q ∧ q ≤ 154 ∧ f ≤ j ∧ j < a.facts - 1 then a q (j + 1) else if q = 129 ∧ j = 29 then a.facts - 1 else a q j
section
variable {f : Int}
theorem rm_q {q : Nat} (h : q < 129 ∨ (129 < q ∧ q < 150) ∨ 154 < q) : remA a f q = a q := by
  funext j; unfold remA; rw [if_neg (by omega), if_neg (by omega)]
theorem rm_j {j : Int} (h : j ≠ 29) : remA a f 129 j = a 129 j := by unfold remA; rw [if_neg (by omega), if_neg (by omega)]
theorem rm_n : Ab.facts (remA a f) = a.facts - 1 := by unfold Ab.facts remA; rw [if_neg (by omega), if_pos ⟨rfl, rfl⟩]; rfl
theorem rm_i {q : Nat} (h : 150 ≤ q ∧ q ≤ 154) {i : Int} (h1 : i < a.facts - 1) : remA a f q i = tak f (a q) i := by
  unfold remA
  by_cases l : i < f
  · rw [if_neg (by omega), if_neg (by omega), tak_l l]
  · rw [if_pos ⟨h.1, h.2, by omega, h1⟩, tak_g (by omega)]
theorem rm_FB : FB a (remA a f) := ⟨⟨⟨fun q hq => rm_q (by omega), rm_j (by omega)⟩, ⟨rm_q (by omega), rm_q (by omega), rm_q (by omega), rm_q (by omega), rm_j (by omega)⟩, ⟨rm_j (by omega), rm_j (by omega)⟩⟩, ⟨rm_q (by omega), rm_q (by omega), rm_q (by omega)⟩, ⟨rm_q (by omega), rm_q (by omega), rm_q (by omega), rm_q (by omega)⟩, fun q h1 h2 => rm_q (by omega), rm_j (by omega), rm_q (by omega), rm_j (by omega), rm_j (by omega)⟩
theorem rm_t {i : Int} (h : i < a.facts - 1) : Ab.ft (remA a f) i = tak f a.ft i ∧ Ab.fa (remA a f) i = tak f a.fa i ∧ Ab.fb (remA a f) i = tak f a.fb i ∧ Ab.fm (remA a f) i = tak f a.fm i ∧ Ab.fv (remA a f) i = tak f a.fv i := ⟨rm_i (by omega) h, rm_i (by omega) h, rm_i (by omega) h, rm_i (by omega) h, rm_i (by omega) h⟩
end
theorem tak_s {f : Int} {c : Int → Int} (i : Int) : tak f c i = c (if i < f then i else i + 1) := by
  by_cases l : i < f
  · rw [tak_l l, if_pos l]
  · rw [tak_g (by omega), if_neg l]
theorem rm_W (W : WFA a) {f : Int} (f0 : 0 ≤ f) (f1 : f < a.facts) : WFA (remA a f) := by
  have h130 : Ab.many (remA a f) = a.many := rm_q (by omega)
  have h131 : Ab.kind (remA a f) = a.kind := rm_q (by omega)
  have h146 : Ab.mk (remA a f) = a.mk := rm_q (by omega)
  have hm : Ab.measures (remA a f) = a.measures := rm_j (by omega)
  refine FB_W W rm_FB ?_ ?_
  · have := W 12
    simp only [wfa, thr, isP, h130, h131, h146, hm, rm_n] at this ⊢
    refine ⟨by omega, by omega, fun i i0 i1 => ?_⟩
    obtain ⟨g0, g1, g2, g3, g4⟩ := rm_t (a := a) (f := f) (i := i) i1
    rw [g0, g1, g2, g3, g4, tak_s, tak_s, tak_s, tak_s, tak_s]
    have hb : 0 ≤ (if i < f then i else i + 1) ∧ (if i < f then i else i + 1) < a.facts := by
      by_cases l : i < f
      · rw [if_pos l]; omega
      · rw [if_neg l]; omega
    exact this.2.2 _ hb.1 hb.2
  · have h18 : ∀ f g : Int, 0 ≤ f → f < a.facts → 0 ≤ g → g < a.facts → a.ft f = a.ft g → a.fa f = a.fa g → a.fb f = a.fb g → a.fm f = a.fm g → f = g := W 18
    intro i k
    rw [rm_n]
    intro i0 i1 k0 k1
    obtain ⟨g0, g1, g2, g3, g4⟩ := rm_t (a := a) (f := f) (i := i) i1
    obtain ⟨p0, p1, p2, p3, p4⟩ := rm_t (a := a) (f := f) (i := k) k1
    rw [g0, g1, g2, g3, p0, p1, p2, p3, tak_s, tak_s, tak_s, tak_s, tak_s, tak_s, tak_s, tak_s]
    intro e0 e1 e2 e3
    have hb : ∀ i : Int, 0 ≤ i → i < a.facts - 1 → 0 ≤ (if i < f then i else i + 1) ∧ (if i < f then i else i + 1) < a.facts := fun i i0 i1 => by
      by_cases l : i < f
      · rw [if_pos l]; omega
      · rw [if_neg l]; omega
    have r := h18 _ _ (hb i i0 i1).1 (hb i i0 i1).2 (hb k k0 k1).1 (hb k k0 k1).2 e0 e1 e2 e3
    by_cases l : i < f <;> by_cases l' : k < f
    · rw [if_pos l, if_pos l'] at r; exact r
    · rw [if_pos l, if_neg l'] at r; omega
    · rw [if_neg l, if_pos l'] at r; omega
    · rw [if_neg l, if_neg l'] at r; omega
theorem c_remove (W : WFA a) (R : ICR σ a) {f : Int} (f0 : 0 ≤ f) (f1 : f < a.facts) : Okk (f_FR_remove σ f) fun s => (∀ q : Nat, q < 101 ∨ 104 < q → s q = σ q) ∧ (∀ j : Int, j ≠ 0 → s 101 j = σ 101 j) ∧ ICF s (remA a f) := by
  have hF0 : σ 101 0 = a.facts ∧ ∀ f : Int, 0 ≤ f → f < a.facts → σ 102 f = 144 * a.ft f + 12 * a.fa f + a.fb f ∧ σ 103 f = a.fm f ∧ σ 104 f = a.fv f := R.2.2.2.2.2.2 0
  have h12 : 0 ≤ a.facts ∧ a.facts ≤ 50 ∧ _ := W 12
  have L : ∀ (F : Nat) (k : Int) (s : Hp), f ≤ k → k ≤ a.facts - 1 → a.facts - 1 - k < F → (∀ q : Nat, q ≠ 102 → q ≠ 103 → q ≠ 104 → s q = σ q) → (∀ q : Nat, q = 102 ∨ q = 103 ∨ q = 104 → ∀ i : Int, s q i = if f ≤ i ∧ i < k then σ q (i + 1) else σ q i) → Okk (f_FR_remove_10 F k s) fun r => (∀ q : Nat, q ≠ 102 → q ≠ 103 → q ≠ 104 → r.2 q = σ q) ∧ ∀ q : Nat, q = 102 ∨ q = 103 ∨ q = 104 → ∀ i : Int, r.2 q i = if f ≤ i ∧ i < a.facts - 1 then σ q (i + 1) else σ q i := by
    intro F
    induction F with
    | zero => intro k s k0 k1 hF; omega
    | succ F ih =>
      intro k s k0 k1 hF E hs
      have e101 : s 101 0 = a.facts := by rw [E 101 (by omega) (by omega) (by omega)]; exact hF0.1
      rw [f_FR_remove_10, e101]
      refine ok_grd (by (first | omega | (unfold r32; omega) | (unfold r64; omega) | (simp only [r32, r64] at *; omega))) (ok_ite (fun g => ok_some ⟨E, fun q hq i => by dsimp only; rw [hs q hq i, show k = a.facts - 1 by omega]⟩) (fun g => ?_))
      have u : ∀ q : Nat, q = 102 ∨ q = 103 ∨ q = 104 → s q (k + 1) = σ q (k + 1) := fun q hq => by rw [hs q hq, if_neg (by omega)]
      have e103 : (hset s 102 k (s 102 (k + 1))) 103 (k + 1) = σ 103 (k + 1) := by rw [hset_ne (by omega)]; exact u 103 (by omega)
      have e104 : (hset (hset s 102 k (s 102 (k + 1))) 103 k (σ 103 (k + 1))) 104 (k + 1) = σ 104 (k + 1) := by rw [hset_ne (by omega), hset_ne (by omega)]; exact u 104 (by omega)
      rw [e103, e104, u 102 (by omega)]
      refine ok_grd (by (first | omega | (unfold r32; omega) | (unfold r64; omega) | (simp only [r32, r64] at *; omega))) (ok_grd (by omega) (ok_grd (by omega) (ok_grd (by (first | omega | (unfold r32; omega) | (unfold r64; omega) | (simp only [r32, r64] at *; omega))) (ok_grd (by omega) (ok_grd (by omega) (ok_grd (by (first | omega | (unfold r32; omega) | (unfold r64; omega) | (simp only [r32, r64] at *; omega))) (ok_grd (by omega) (ok_grd (by omega) (ok_grd (by (first | omega | (unfold r32; omega) | (unfold r64; omega) | (simp only [r32, r64] at *; omega))) ?_)))))))))
      refine ih (k + 1) _ (by omega) (by omega) (by omega) (fun q q1 q2 q3 => by rw [hset_ne q3, hset_ne q2, hset_ne q1]; exact E q q1 q2 q3) (fun q hq i => ?_)
      have step : (if i = k then σ q (k + 1) else s q i) = if f ≤ i ∧ i < k + 1 then σ q (i + 1) else σ q i := by
        by_cases z : i = k
        · rw [if_pos z, if_pos (by omega), z]
        · rw [if_neg z, hs q hq i]
          by_cases z2 : f ≤ i ∧ i < k
          · rw [if_pos z2, if_pos (by omega)]
          · rw [if_neg z2, if_neg (by omega)]
      rw [← step]
      rcases hq with rfl | rfl | rfl
      · rw [hset_ne (by omega), hset_ne (by omega)]; exact hs_if
      · rw [hset_ne (by omega), hs_if, hset_ne (by omega)]
      · rw [hs_if, hset_ne (by omega), hset_ne (by omega)]
  unfold f_FR_remove
  refine ok_eqb (e_FR_has σ f) ?_
  rw [hF0.1, bI_t ⟨f0, f1, by omega⟩, if_neg (by omega)]
  refine ok_bind (ok_call (L zFuel f σ (Int.le_refl _) (by omega) (by unfold zFuel; omega) (fun _ _ _ _ => rfl) (fun q hq i => by rw [if_neg (by omega)])) ?_)
  rintro r ⟨r1, r2⟩
  have e101 : r.2 101 0 = a.facts := by rw [r1 101 (by omega) (by omega) (by omega)]; exact hF0.1
  rw [e101]
  refine ok_grd (by (first | omega | (unfold r32; omega) | (unfold r64; omega) | (simp only [r32, r64] at *; omega))) (ok_some (ok_some ⟨fun q hq => ?_, fun j hj => ?_, fun k => ?_⟩))
  · rw [hset_ne (by omega)]; exact r1 q (by omega) (by omega) (by omega)
  · rw [hs_nj hj, r1 101 (by omega) (by omega) (by omega)]
  · have g := R.2.2.2.2.2.2 k
    have E : ∀ q : Nat, 104 < q → (hset r.2 101 0 (a.facts - 1)) q = σ q := fun q hq => by rw [hset_ne (by omega)]; exact r1 q (by omega) (by omega) (by omega)
    have e101' : ∀ j : Int, j ≠ 0 → (hset r.2 101 0 (a.facts - 1)) 101 j = σ 101 j := fun j hj => by rw [hs_nj hj, r1 101 (by omega) (by omega) (by omega)]
    have s5 : Ab.st (remA a f) = a.st := rm_q (by omega)
    have s6 : Ab.sa (remA a f) = a.sa := rm_q (by omega)
    have s7 : Ab.sb (remA a f) = a.sb := rm_q (by omega)
    have s8 : Ab.sm (remA a f) = a.sm := rm_q (by omega)
    have s9 : Ab.sv (remA a f) = a.sv := rm_q (by omega)
    have ss : Ab.saved (remA a f) = a.saved := rm_j (by omega)
    match k, g with
    | 0, g =>
      refine (show (hset r.2 101 0 (a.facts - 1)) 101 0 = Ab.facts (remA a f) ∧ _ from ⟨by rw [hs_eq, rm_n], fun i i0 i1 => ?_⟩)
      rw [rm_n] at i1
      obtain ⟨g0, g1, g2, g3, g4⟩ := rm_t (a := a) (f := f) (i := i) i1
      rw [g0, g1, g2, g3, g4, hset_ne (by omega : (102 : Nat) ≠ 101), hset_ne (by omega : (103 : Nat) ≠ 101), hset_ne (by omega : (104 : Nat) ≠ 101), r2 102 (by omega), r2 103 (by omega), r2 104 (by omega)]
      by_cases l : i < f
      · rw [tak_l l, tak_l l, tak_l l, tak_l l, tak_l l, if_neg (by omega), if_neg (by omega), if_neg (by omega)]
        exact hF0.2 i i0 (by omega)
      · rw [tak_g (by omega), tak_g (by omega), tak_g (by omega), tak_g (by omega), tak_g (by omega), if_pos (by omega), if_pos (by omega), if_pos (by omega)]
        exact hF0.2 (i + 1) (by omega) (by omega)
    | 1, g => simp only [icf, ss, e101' 2 (by omega)] at g ⊢; exact g
    | 2, g => simp only [icf, ss, s5, s6, s7, s8, s9, e101' 1 (by omega), E 105 (by omega), E 106 (by omega), E 107 (by omega)] at g ⊢; exact g
    | _ + 3, _ => trivial
theorem e_M_forget_88 {d : Ab} {K f : Int} {s0 : Hp} (f0 : 0 ≤ f) (K50 : K ≤ 49) : ∀ (F : Nat) (k : Int) (s : Hp), f ≤ k → k ≤ K → K - k < F → s 129 29 = K → (∀ q : Nat, q < 150 ∨ 154 < q → s q = s0 q) → (∀ q : Nat, 150 ≤ q → q ≤ 154 → ∀ i : Int, s q i = if f ≤ i ∧ i < k then s0 q (i + 1) else s0 q i) → Okk (f_M_forget_88 F k s) fun r => (∀ q : Nat, q < 150 ∨ 154 < q → r.2 q = s0 q) ∧ ∀ q : Nat, 150 ≤ q → q ≤ 154 → ∀ i : Int, r.2 q i = if f ≤ i ∧ i < K then s0 q (i + 1) else s0 q i := by
  intro F
  induction F with
  | zero => intro k s k0 k1 hF; omega
  | succ F ih =>
    intro k s k0 k1 hF h29 E hs
    rw [f_M_forget_88, h29]
    refine ok_ite (fun g => ok_some ⟨E, fun q q1 q2 i => by dsimp only; rw [hs q q1 q2 i, show k = K by omega]⟩) (fun g => ?_)
    have u : ∀ q : Nat, 150 ≤ q → q ≤ 154 → s q (k + 1) = s0 q (k + 1) := fun q q1 q2 => by rw [hs q q1 q2, if_neg (by omega)]
    rw [u 150 (by omega) (by omega), u 151 (by omega) (by omega), u 152 (by omega) (by omega), u 153 (by omega) (by omega), u 154 (by omega) (by omega)]
    refine ok_grd (by (first | omega | (unfold r32; omega) | (unfold r64; omega) | (simp only [r32, r64] at *; omega))) (ok_grd (by omega) (ok_grd (by (first | omega | (unfold r32; omega) | (unfold r64; omega) | (simp only [r32, r64] at *; omega))) (ok_grd (by omega) (ok_grd (by (first | omega | (unfold r32; omega) | (unfold r64; omega) | (simp only [r32, r64] at *; omega))) (ok_grd (by omega) (ok_grd (by (first | omega | (unfold r32; omega) | (unfold r64; omega) | (simp only [r32, r64] at *; omega))) (ok_grd (by omega) (ok_grd (by (first | omega | (unfold r32; omega) | (unfold r64; omega) | (simp only [r32, r64] at *; omega))) (ok_grd (by omega) ?_)))))))))
    unfold f_M_lay
    refine ok_bind (ok_grd (by omega) (ok_grd (by omega) (ok_grd (by omega) (ok_grd (by omega) (ok_grd (by omega) (ok_some (ok_grd (by (first | omega | (unfold r32; omega) | (unfold r64; omega) | (simp only [r32, r64] at *; omega))) ?_)))))))
    refine ih (k + 1) _ (by omega) (by omega) (by omega) (by rw [hset_ne (by omega), hset_ne (by omega), hset_ne (by omega), hset_ne (by omega), hset_ne (by omega)]; exact h29) (fun q hq => by rw [hset_ne (by omega), hset_ne (by omega), hset_ne (by omega), hset_ne (by omega), hset_ne (by omega)]; exact E q hq) (fun q q1 q2 i => ?_)
    have step : (if i = k then s0 q (k + 1) else s q i) = if f ≤ i ∧ i < k + 1 then s0 q (i + 1) else s0 q i := by
      by_cases z : i = k
      · rw [if_pos z, if_pos (by omega), z]
      · rw [if_neg z, hs q q1 q2 i]
        by_cases z2 : f ≤ i ∧ i < k
        · rw [if_pos z2, if_pos (by omega)]
        · rw [if_neg z2, if_neg (by omega)]
    rw [← step]
    have hq : q = 150 ∨ q = 151 ∨ q = 152 ∨ q = 153 ∨ q = 154 := by omega
    rcases hq with rfl | rfl | rfl | rfl | rfl
    · rw [hset_ne (by omega), hset_ne (by omega), hset_ne (by omega), hset_ne (by omega)]; exact hs_if
    · rw [hset_ne (by omega), hset_ne (by omega), hset_ne (by omega), hs_if, hset_ne (by omega)]
    · rw [hset_ne (by omega), hset_ne (by omega), hs_if, hset_ne (by omega), hset_ne (by omega)]
    · rw [hset_ne (by omega), hs_if, hset_ne (by omega), hset_ne (by omega), hset_ne (by omega)]
    · rw [hs_if, hset_ne (by omega), hset_ne (by omega), hset_ne (by omega), hset_ne (by omega)]
theorem op_forget (H : J σ a n B) (hB : B ≤ 100000) (t x y m : Int) : OPT σ a n B e (f_L_forget σ e t x y m) (fun σ' => f_M_forget σ' t x y m) := by
  obtain ⟨W, K, V, I, VV, h1, h2⟩ := id H
  obtain ⟨R, IK, IW, I9⟩ := IC_r I
  have h12 : 0 ≤ a.facts ∧ a.facts ≤ 50 ∧ _ := W 12
  have h14 : 0 ≤ a.keeps ∧ a.keeps ≤ 20 ∧ _ := W 14
  by_cases h : mem4 a t x y m
  · have hc : cin a t x y := ⟨h.1, h.2.1, h.2.2.1⟩
    by_cases hx : ∃ f : Int, 0 ≤ f ∧ f < a.facts ∧ isF a t x y m f
    · obtain ⟨f, f0, f1, hff⟩ := hx
      have hf := fct W f0 f1
      have Wr := rm_W W f0 f1
      have Kr : WFW (remA a f) := WFW_s K rm_FB.2.2.1 rm_FB.1.1
      have Wb := drA_W Wr t x y m
      have Kb : WFW (drA (remA a f) t x y m) := drA_K Kr _ _ _ _
      have hh : Ab.hits (drA (remA a f) t x y m) = a.hits := sA_h.2.trans rm_FB.2.2.2.2.2.2.2
      refine ⟨0, a.fv f, drA (remA a f) t x y m, ⟨Wb, Kb, by rw [hh]; exact h1, by rw [hh]; omega⟩, ?_, ?_⟩
      · unfold f_L_forget
        refine L_ok Wb ?_
        unfold f_C_forget
        refine ok_eqb (nC_y' W R h) ?_
        rw [if_pos rfl]
        refine ok_call (e_FR_find W R.2.2.2.2.2.2 hc) (fun r hr => ?_)
        have er : r = f := by
          rcases hr with hr | hr
          · exact absurd hff (hr.2 f f0 f1)
          · exact isF_u W hr.1 hr.2.1 f0 f1 hr.2.2 hff
        subst er
        rw [if_neg (by omega)]
        refine ok_bind (ok_some (ok_eqb need1 ?_))
        rw [if_pos rfl]
        refine ok_eqb (r_FR W R.2.2.2.2.2.2 f0 f1).2.2 (ok_call (c_remove W R f0 f1) ?_)
        rintro s ⟨E, E1, hFs⟩
        have Rb : ICR s (remA a r) := ICR_pm W rm_FB.1.1 rm_FB.2.1 rm_FB.1.2.2 (fun q hq => E q (by omega)) (ICM_s rm_FB.1.2.1 (ICM_e (fun q _ _ => E q (by omega)) R.2.2.2.2.2.1)) hFs R
        have h130 : Ab.many (remA a r) = a.many := rm_q (by omega)
        have h131 : Ab.kind (remA a r) = a.kind := rm_q (by omega)
        have hm : Ab.measures (remA a r) = a.measures := rm_j (by omega)
        have e108 : s 108 0 = ((a.keeps.toNat : Nat) : Int) := by rw [E 108 (by omega), (hit_e IK).1]; omega
        have rk : rowsK s (remA a r) a.kept a.keeps.toNat := by
          have := rowsK_c (b := remA a r) rm_FB.1 (rowsK_of W IK)
          intro i i0 i1
          rw [E 109 (by omega), E 110 (by omega)]
          exact this i i0 (by omega)
        have hP : isP a 0 t ∧ isP a 1 x ∧ isP a 2 y := by
          rw [← hff.1, ← hff.2.1, ← hff.2.2.1]; exact ⟨hf.1.2, hf.2.1.2, hf.2.2.1.2⟩
        refine ok_call (c_dropFor Wr Rb e108 (by omega) rk (pt := t) (px := x) (py := y) (fm := m) ⟨by simp only [thr, h130]; exact hc.1, by simp only [thr, h130]; exact hc.2.1, by simp only [thr, h130]; exact hc.2.2⟩ (by simp only [isP, h131]; exact hP) h.2.2.2.1 (by rw [hm]; exact h.2.2.2.2)) ?_
        rintro u ⟨d0, d1, d2, d3⟩
        refine ok_some ⟨rfl, rfl, fun q q1 q2 => by dsimp only; rw [d0 q (by omega), E q (by omega)], ?_⟩
        dsimp only
        refine IC_m Wb (fun _ _ => rfl) (by omega : B ≤ B + 60) (IC_fc W I rm_FB Wr Kr (fun q hq => by rw [d0 q (by omega), E q (by omega)]) (ICF_e (fun q h1 h2 => d0 q (by omega)) hFs) (by rw [d1, E 108 (by omega)]) d2 (fun i hi hs => ?_) (fun t' x' y' m' hc' m0 m1 hd => ?_))
        · have := d3 i (by omega) hs
          rw [E 109 (by omega), E 110 (by omega), E 111 (by omega)] at this
          exact this
        · rw [dropP_c rm_FB.1] at hd
          have nv := nd_val W hc' m0 m1 hd
          refine val_i W rm_FB.1 m0 m1 nv.1 (fun m'' q0 q1 q2 => pln_C W rm_FB.1 f0 f1 (fun i i0 i1 => rm_t i1) rm_n ?_)
          unfold cnf
          rw [hff.1, hff.2.1, hff.2.2.1, hff.2.2.2]
          by_cases z : m = m''
          · rw [if_pos z]
            by_cases z2 : cnt a t x y t' x' y' = 0
            · exact z2
            · exact absurd ⟨by rw [z]; exact q2, z2⟩ nv.2
          · rw [if_neg z]
      · intro σ' V1 VV1
        unfold f_M_forget
        refine ok_eqb (e_M_areThere W V1 t x y m) ?_
        rw [bI_t h]
        refine ok_call (P := fun r => r = f) ?_ ?_
        · rw [if_neg (by omega)]
          refine ok_call (e_M_found W V1 t x y m) (fun r hr => ok_some ?_)
          rcases hr with hr | hr
          · exact absurd hff (hr.2 f f0 f1)
          · exact isF_u W hr.1 hr.2.1 f0 f1 hr.2.2 hff
        rintro r rfl
        rw [if_pos (by omega), if_pos f0]
        refine ok_bind (ok_some (ok_eqb (e_M_holds _ _) ?_))
        dsimp only
        rw [if_pos (by simp)]
        have V2 := Vw_50 V1 0
        have v0 : 1 ≤ σ' 129 38 ∧ σ' 129 38 ≤ B + 1 ∧ _ := VV1 0
        refine ok_grd (by omega) (ok_call (e_M_drop W V2 f0 f1 (by rw [hs_nj (by omega)]; (first | omega | (unfold r32; omega) | (unfold r64; omega) | (simp only [r32, r64] at *; omega)))) ?_)
        rintro s ⟨s1, s2, s3, s4⟩
        rw [hff.1, hff.2.1, hff.2.2.1, hff.2.2.2] at s1
        have e29 : s 129 29 = a.facts := by rw [w_facts s1]; exact drA_n _ _ _ _
        rw [e29]
        refine ok_grd (by (first | omega | (unfold r32; omega) | (unfold r64; omega) | (simp only [r32, r64] at *; omega))) (ok_call (e_M_forget_88 (d := a) (K := a.facts - 1) (f := r) (s0 := hset s 129 29 (a.facts - 1)) f0 (by omega) zFuel r _ (Int.le_refl _) (by omega) (by unfold zFuel; omega) hs_eq (fun _ _ => rfl) (fun q q1 q2 i => by rw [if_neg (by omega)])) ?_)
        rintro u ⟨u1, u2⟩
        have hfv : (hset σ' 129 50 0) 154 r = a.fv r := w_fv V2 r
        rw [hfv]
        have dP' : dropP (remA a r) t x y m = dropP a t x y m := funext fun c => propext (dropP_c rm_FB.1 t x y m c)
        have Vu : Vw u.2 (drA (remA a r) t x y m) := by
          have k1 : Ab.kept (remA a r) = a.kept := rm_q (by omega)
          have k2 : Ab.keeps (remA a r) = a.keeps := rm_j (by omega)
          intro q j hq
          have X : ∀ (q : Nat) (j : Int), drA (remA a r) t x y m q j = if q = 162 then (drS (dropP a t x y m) a.keeps.toNat a.kept a.keeps).1 j else if q = 129 ∧ j = 40 then (drS (dropP a t x y m) a.keeps.toNat a.kept a.keeps).2 else remA a r q j := fun q j => by
            unfold drA; rw [dP', k1, k2]; rfl
          have Y : ∀ (q : Nat) (j : Int), vwP q j → s q j = if q = 162 then (drS (dropP a t x y m) a.keeps.toNat a.kept a.keeps).1 j else if q = 129 ∧ j = 40 then (drS (dropP a t x y m) a.keeps.toNat a.kept a.keeps).2 else a q j := fun q j hq => s1 q j hq
          rw [X]
          by_cases c1 : 150 ≤ q ∧ q ≤ 154
          · have n1 : ¬ q = 162 := by omega
            have n2 : ∀ j : Int, ¬ (q = 129 ∧ j = 40) := fun j => by omega
            have n3 : ¬ (q = 129 ∧ j = 29) := by omega
            have h129 : (hset s 129 29 (a.facts - 1)) q = s q := hset_ne (by omega)
            rw [u2 q c1.1 c1.2, if_neg n1, if_neg (n2 j), h129]
            unfold remA
            by_cases c2 : r ≤ j ∧ j < a.facts - 1
            · have c3 : 150 ≤ q ∧ q ≤ 154 ∧ r ≤ j ∧ j < a.facts - 1 := ⟨c1.1, c1.2, c2.1, c2.2⟩
              rw [if_pos c2, if_pos c3, Y q (j + 1) (by unfold vwP; omega), if_neg n1, if_neg (n2 (j + 1))]
            · have c3 : ¬ (150 ≤ q ∧ q ≤ 154 ∧ r ≤ j ∧ j < a.facts - 1) := fun g => c2 ⟨g.2.2.1, g.2.2.2⟩
              rw [if_neg c2, if_neg c3, if_neg n3, Y q j hq, if_neg n1, if_neg (n2 j)]
          · rw [u1 q (by omega)]
            have c3 : ¬ (150 ≤ q ∧ q ≤ 154 ∧ r ≤ j ∧ j < a.facts - 1) := fun g => c1 ⟨g.1, g.2.1⟩
            by_cases c2 : q = 129 ∧ j = 29
            · have n1 : ¬ q = 162 := by omega
              have n2 : ¬ (q = 129 ∧ j = 40) := by omega
              rw [if_neg n1, if_neg n2]
              unfold remA
              rw [if_neg c3, if_pos c2, c2.1, c2.2, hs_eq]
            · have e1 : (hset s 129 29 (a.facts - 1)) q j = s q j := if_neg c2
              rw [e1, Y q j hq]
              unfold remA
              rw [if_neg c3, if_neg c2]
        have e38u : u.2 129 38 = (hset σ' 129 50 0) 129 38 + 1 := by rw [u1 129 (by omega)]; exact (hs_nj (by omega)).trans s4
        have P : pcg (hset σ' 129 50 0) u.2 := ⟨fun q hq => by rw [u1 q (by omega), hset_ne (by omega), s2 q (by omega) (by omega)], by rw [u1 129 (by omega), hs_nj (by omega), s3 46 (by omega) (by omega)], by rw [u1 129 (by omega), hs_nj (by omega), s3 50 (by omega) (by omega)], by rw [e38u]; omega, by rw [e38u]; omega⟩
        exact ok_some (MR_put V1 VV1 Wb Vu rfl P e38u _)
    · refine opt_er H 2 0 ?_ ?_
      · unfold f_L_forget
        refine ok_call (P := fun r => r = (3, 0, σ)) ?_ ?_
        · unfold f_C_forget
          refine ok_eqb (nC_y' W R h) ?_
          rw [if_pos rfl]
          refine ok_call (e_FR_find W R.2.2.2.2.2.2 hc) (fun r hr => ?_)
          have er : r = -1 := by
            rcases hr with hr | hr
            · exact hr.1
            · exact absurd ⟨r, hr⟩ hx
          rw [er, if_pos rfl]
          refine ok_bind (ok_some (ok_eqb need0 ?_))
          rw [if_neg (by omega)]
          exact ok_grd (by omega) (ok_some rfl)
        · rintro r rfl
          (rw [if_neg (by simp), if_neg (by simp), if_pos rfl]; exact ok_some (LR_er W I (by omega) _ _ (by omega)))
      · intro σ' V1 VV1
        unfold f_M_forget
        refine ok_eqb (e_M_areThere W V1 t x y m) ?_
        rw [bI_t h]
        refine ok_call (P := fun r => r = -1) ?_ ?_
        · rw [if_neg (by omega)]
          refine ok_call (e_M_found W V1 t x y m) (fun r hr => ok_some ?_)
          rcases hr with hr | hr
          · exact hr.1
          · exact absurd ⟨r, hr⟩ hx
        rintro r rfl
        rw [if_pos (by omega), if_neg (by omega)]
        refine ok_bind (ok_some ?_)
        (refine ok_eqb (e_M_holds _ _) ?_; dsimp only; rw [if_neg (by simp)]; exact ok_some (MR_er V1 VV1 (by omega) _ _ _ (fun g => absurd g (by omega))))
  · refine opt_er H 1 0 ?_ ?_
    · unfold f_L_forget
      refine ok_eqb (v := (1, 0, σ)) ?_ ?_
      · unfold f_C_forget; apply ok_eq
        refine ok_eqb (nC_n' W R h) ?_
        rw [if_neg (by simp)]
        exact ok_grd (by simp) (ok_some rfl)
      · (rw [if_neg (by simp), if_pos rfl]; exact ok_some (LR_er W I (by omega) _ _ (by omega)))
    · intro σ' V1 VV1
      unfold f_M_forget
      refine ok_eqb (e_M_areThere W V1 t x y m) ?_
      rw [bI_f h, if_pos rfl]
      refine ok_bind (ok_some ?_)
      rw [if_neg (by omega)]
      refine ok_bind (ok_some ?_)
      (refine ok_eqb (e_M_holds _ _) ?_; dsimp only; rw [if_neg (by simp)]; exact ok_some (MR_er V1 VV1 (by omega) _ _ _ (fun g => absurd g (by omega))))
end
