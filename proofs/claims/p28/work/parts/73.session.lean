/-! ===== sessions ===== -/
section
variable {σ : Hp} {a b : Ab} {n : Nat} {B : Int} {e : Nat}
theorem zc_ne {σ : Hp} {P Q q : Nat} {x y z : Int} (h : q ≠ Q) : zCpy σ P Q x y z q = σ q := by
  funext j; unfold zCpy; rw [if_neg (fun g => h g.1)]
theorem zc_v {σ : Hp} {P Q : Nat} {z j : Int} (h : 0 ≤ j ∧ j < z) : zCpy σ P Q 0 0 z Q j = σ P j := by
  unfold zCpy; rw [if_pos ⟨rfl, h.1, by omega⟩, show (0 : Int) + (j - 0) = j by omega]
/-- a session is begun -/
def bgA (a : Ab) : Ab := fun q j => if q = 129 ∧ j = 35 then a.facts else if 155 ≤ q ∧ q ≤ 159 ∧ 0 ≤ j ∧ j < a.facts then a (q - 5) j else a q j
theorem bg_q {q : Nat} (h : q ≠ 129) (h2 : q < 155 ∨ 159 < q) : bgA a q = a q := by
  funext j; unfold bgA; rw [if_neg (fun g => h g.1), if_neg (by omega)]
theorem bg_j {j : Int} (h : j ≠ 35) : bgA a 129 j = a 129 j := by
  unfold bgA; rw [if_neg (fun g => h g.2), if_neg (by omega)]
theorem bg_s : (bgA a).saved = a.facts := by
  unfold Ab.saved bgA; rw [if_pos ⟨rfl, rfl⟩]
theorem bg_v {q : Nat} {j : Int} (h : 155 ≤ q ∧ q ≤ 159) (h2 : 0 ≤ j ∧ j < a.facts) : bgA a q j = a (q - 5) j := by
  unfold bgA; rw [if_neg (by omega), if_pos ⟨h.1, h.2, h2.1, h2.2⟩]
theorem bg_V : sval a (bgA a) := ⟨⟨fun q hq => bg_q (by omega) (by omega), bg_j (by omega)⟩, ⟨bg_q (by omega) (by omega), bg_q (by omega) (by omega), bg_q (by omega) (by omega), bg_q (by omega) (by omega), bg_j (by omega)⟩, ⟨bg_j (by omega), bg_j (by omega)⟩, fun q h1 h2 => bg_q (by omega) (by omega), bg_j (by omega), fun i _ => ⟨by unfold Ab.what; rw [bg_q (by omega) (by omega)], by unfold Ab.one; rw [bg_q (by omega) (by omega)], by unfold Ab.two; rw [bg_q (by omega) (by omega)]⟩, fun s _ => by unfold Ab.len; rw [bg_q (by omega) (by omega)]⟩
theorem bg_P : spk a (bgA a) := ⟨bg_q (by omega) (by omega), bg_q (by omega) (by omega), bg_q (by omega) (by omega)⟩
theorem bg_D : swd a (bgA a) := ⟨bg_q (by omega) (by omega), bg_q (by omega) (by omega), bg_q (by omega) (by omega), bg_q (by omega) (by omega)⟩
theorem bg_W (W : WFA a) : WFA (bgA a) := by
  have S := bg_V (a := a)
  have h130 : Ab.many (bgA a) = a.many := S.1.1 130 (by omega)
  have h131 : Ab.kind (bgA a) = a.kind := S.1.1 131 (by omega)
  have m1 : Ab.mk (bgA a) = a.mk := S.2.1.1
  have m5 := S.2.1.2.2.2.2
  have h0 : Ab.ft (bgA a) = a.ft := bg_q (by omega) (by omega)
  have h1 : Ab.fa (bgA a) = a.fa := bg_q (by omega) (by omega)
  have h2 : Ab.fb (bgA a) = a.fb := bg_q (by omega) (by omega)
  have h3 : Ab.fm (bgA a) = a.fm := bg_q (by omega) (by omega)
  have h4 : Ab.fv (bgA a) = a.fv := bg_q (by omega) (by omega)
  have hf := S.2.2.2.2.1
  have v : ∀ f : Int, 0 ≤ f → f < a.facts → Ab.st (bgA a) f = a.ft f ∧ Ab.sa (bgA a) f = a.fa f ∧ Ab.sb (bgA a) f = a.fb f ∧ Ab.sm (bgA a) f = a.fm f ∧ Ab.sv (bgA a) f = a.fv f := fun f f0 f1 => ⟨bg_v (by omega) ⟨f0, f1⟩, bg_v (by omega) ⟨f0, f1⟩, bg_v (by omega) ⟨f0, f1⟩, bg_v (by omega) ⟨f0, f1⟩, bg_v (by omega) ⟨f0, f1⟩⟩
  refine WFA_all (wfa_s W S.1) (wfa_8 W S.2.2.1.1 S.2.2.1.2) (wfa_m W S.2.1) (fun k hk => ?_) (wfa_k W S.1 m5 (bg_q (by omega) (by omega)) (bg_j (by omega))) (wfa_p W S.1 bg_P) (wfa_17 W (by unfold Ab.len; rw [bg_q (by omega) (by omega)]))
  rcases hk with rfl | rfl | rfl | rfl
  · have := W 12; simp only [wfa, thr, isP, h130, h131, m1, m5, h0, h1, h2, h3, h4, hf] at this ⊢; exact this
  · have := W 12
    simp only [wfa, thr, isP] at this
    simp only [wfa, thr, isP, h130, h131, m1, m5, bg_s]
    refine ⟨by omega, this.2.1, fun f f0 f1 => ?_⟩
    obtain ⟨v0, v1, v2, v3, v4⟩ := v f f0 f1
    rw [v0, v1, v2, v3, v4]
    exact this.2.2 f f0 f1
  · have := W 18; simp only [wfa, h0, h1, h2, h3, hf] at this ⊢; exact this
  · have := W 18
    simp only [wfa] at this
    simp only [wfa, bg_s]
    intro f g f0 f1 g0 g1
    obtain ⟨v0, v1, v2, v3, v4⟩ := v f f0 f1
    obtain ⟨u0, u1, u2, u3, u4⟩ := v g g0 g1
    rw [v0, v1, v2, v3, u0, u1, u2, u3]
    exact this f g f0 f1 g0 g1
/-- the reference's copy, k places of it done -/
def cpS (t : Hp) (k : Int) : Hp := fun q j => if 155 ≤ q ∧ q ≤ 159 ∧ 0 ≤ j ∧ j < k then t (q - 5) j else t q j
theorem cp_o {t : Hp} {k : Int} {q : Nat} (h : q < 155 ∨ 159 < q) : cpS t k q = t q := by
  funext j; unfold cpS; rw [if_neg (by omega)]
theorem cp_0 (t : Hp) : cpS t 0 = t := by
  funext q j; unfold cpS; rw [if_neg (by omega)]
theorem cp_step {t : Hp} {k v0 v1 v2 v3 v4 : Int} (k0 : 0 ≤ k) (h0 : v0 = t 150 k) (h1 : v1 = t 151 k) (h2 : v2 = t 152 k) (h3 : v3 = t 153 k) (h4 : v4 = t 154 k) : hset (hset (hset (hset (hset (cpS t k) 155 k v0) 156 k v1) 157 k v2) 158 k v3) 159 k v4 = cpS t (k + 1) := by
  funext q j
  by_cases hj : j = k
  · subst hj
    by_cases q5 : q = 155
    · subst q5; (repeat (first | rw [hset_ne (by omega)] | rw [hs_nj (by omega)] | rw [hs_eq])); unfold cpS; rw [if_pos (by omega)]; exact h0
    by_cases q6 : q = 156
    · subst q6; (repeat (first | rw [hset_ne (by omega)] | rw [hs_nj (by omega)] | rw [hs_eq])); unfold cpS; rw [if_pos (by omega)]; exact h1
    by_cases q7 : q = 157
    · subst q7; (repeat (first | rw [hset_ne (by omega)] | rw [hs_nj (by omega)] | rw [hs_eq])); unfold cpS; rw [if_pos (by omega)]; exact h2
    by_cases q8 : q = 158
    · subst q8; (repeat (first | rw [hset_ne (by omega)] | rw [hs_nj (by omega)] | rw [hs_eq])); unfold cpS; rw [if_pos (by omega)]; exact h3
    by_cases q9 : q = 159
    · subst q9; (repeat (first | rw [hset_ne (by omega)] | rw [hs_nj (by omega)] | rw [hs_eq])); unfold cpS; rw [if_pos (by omega)]; exact h4
    rw [hset_ne q9, hset_ne q8, hset_ne q7, hset_ne q6, hset_ne q5, cp_o (by omega), cp_o (by omega)]
  · rw [hs_nj hj, hs_nj hj, hs_nj hj, hs_nj hj, hs_nj hj]
    unfold cpS
    exact ifc (by omega) rfl rfl
theorem op_begin (H : J σ a n B) : OPT σ a n B e (fun code v b => TT a False (fun _ b => TKs a b) code v b) (f_L_begin σ e) := by
  obtain ⟨W, K, V, I, VV, h1, h2⟩ := id H
  obtain ⟨R, IK, IW, I9⟩ := IC_r I
  have h12 : 0 ≤ a.facts ∧ a.facts ≤ 50 ∧ _ := W 12
  have f1 : σ 101 2 = bI (0 ≤ a.saved) := R.2.2.2.2.2.2 1
  have f0 : σ 101 0 = a.facts ∧ ∀ f : Int, 0 ≤ f → f < a.facts → σ 102 f = 144 * a.ft f + 12 * a.fa f + a.fb f ∧ σ 103 f = a.fm f ∧ σ 104 f = a.fv f := R.2.2.2.2.2.2 0
  by_cases h : 0 ≤ a.saved
  · refine opt_er H 1 (σ 170 0) (TT_e ⟨by omega, by omega⟩ (fun q => q)) ?_
    · unfold f_L_begin f_C_begin
      rw [f1, bI_t h, if_pos (by omega)]
      refine ok_bind (ok_bind (ok_some (ok_eqb need0 ?_)))
      rw [if_neg (by omega)]
      refine ok_grd (by omega) (ok_some ?_)
      dsimp only
      (rw [if_neg (by simp), if_pos rfl]; exact ok_some (LR_er W I (by omega) _ _ (by omega)))
  · have S := bg_V (a := a)
    refine ⟨0, σ 170 0, bgA a, ⟨bg_W W, WFW_s K bg_D S.1, by rw [show (bgA a).hits = a.hits from bg_j (by omega)]; exact h1, by rw [show (bgA a).hits = a.hits from bg_j (by omega)]; omega⟩, (TT_0 (TKs_s S.1 S.2.1.2.2.2.2 (bg_j (by omega)))), ?_⟩
    · unfold f_L_begin f_C_begin
      rw [f1, bI_f h, if_neg (by omega)]
      refine ok_bind (ok_bind (ok_some (ok_eqb need1 ?_)))
      rw [if_pos rfl]
      unfold f_FR_save
      refine ok_bind (ok_grd (by omega) (ok_grd (by omega) (ok_grd (by omega) (ok_grd (by omega) (ok_some (ok_some ?_))))))
      dsimp only
      rw [if_pos rfl]
      have e1 : (hset σ 101 2 1) 101 0 = a.facts := by rw [hs_nj (by omega)]; exact f0.1
      rw [e1]
      generalize hs : zCpy (zCpy (zCpy (hset (hset σ 101 2 1) 101 1 a.facts) 102 105 0 0 50) 103 106 0 0 50) 104 107 0 0 50 = s
      have E : ∀ q : Nat, q ≠ 101 → q ≠ 105 → q ≠ 106 → q ≠ 107 → s q = σ q := fun q q1 q2 q3 q4 => by
        rw [← hs, zc_ne q4, zc_ne q3, zc_ne q2, hset_ne q1, hset_ne q1]
      have E1 : s 101 = hset (hset σ 101 2 1) 101 1 a.facts 101 := by
        rw [← hs, zc_ne (by omega), zc_ne (by omega), zc_ne (by omega)]
      have E5 : ∀ j : Int, 0 ≤ j ∧ j < 50 → s 105 j = σ 102 j ∧ s 106 j = σ 103 j ∧ s 107 j = σ 104 j := fun j hj => by
        refine ⟨?_, ?_, ?_⟩
        · rw [← hs, zc_ne (by omega), zc_ne (by omega), zc_v hj, hset_ne (by omega), hset_ne (by omega)]
        · rw [← hs, zc_ne (by omega), zc_v hj, zc_ne (by omega), hset_ne (by omega), hset_ne (by omega)]
        · rw [← hs, zc_v hj, zc_ne (by omega), zc_ne (by omega), hset_ne (by omega), hset_ne (by omega)]
      refine ok_some ⟨rfl, fun _ => by dsimp only; rw [E 170 (by omega) (by omega) (by omega) (by omega)], Nat.le_succ _, fun q q1 q2 => E q (by omega) (by omega) (by omega) (by omega), ?_⟩
      dsimp only
      have hF : ICF s (bgA a) := by
        have g0 : Ab.ft (bgA a) = a.ft := bg_q (by omega) (by omega)
        have g1 : Ab.fa (bgA a) = a.fa := bg_q (by omega) (by omega)
        have g2 : Ab.fb (bgA a) = a.fb := bg_q (by omega) (by omega)
        have g3 : Ab.fm (bgA a) = a.fm := bg_q (by omega) (by omega)
        have g4 : Ab.fv (bgA a) = a.fv := bg_q (by omega) (by omega)
        have g5 : Ab.facts (bgA a) = a.facts := bg_j (by omega)
        intro k
        match k with
        | 0 =>
          simp only [icf, g0, g1, g2, g3, g4, g5, E 102 (by omega) (by omega) (by omega) (by omega), E 103 (by omega) (by omega) (by omega) (by omega), E 104 (by omega) (by omega) (by omega) (by omega)]
          refine ⟨?_, f0.2⟩
          rw [E1, hs_nj (by omega), hs_nj (by omega)]; exact f0.1
        | 1 =>
          simp only [icf, bg_s]
          rw [E1, hs_nj (by omega), hs_eq, bI_t h12.1]
        | 2 =>
          simp only [icf, bg_s]
          intro _
          refine ⟨by rw [E1, hs_eq], fun f p0 p1 => ?_⟩
          have e5 := E5 f ⟨p0, by omega⟩
          rw [e5.1, e5.2.1, e5.2.2, show Ab.st (bgA a) f = a.ft f from bg_v (by omega) ⟨p0, p1⟩, show Ab.sa (bgA a) f = a.fa f from bg_v (by omega) ⟨p0, p1⟩, show Ab.sb (bgA a) f = a.fb f from bg_v (by omega) ⟨p0, p1⟩, show Ab.sm (bgA a) f = a.fm f from bg_v (by omega) ⟨p0, p1⟩, show Ab.sv (bgA a) f = a.fv f from bg_v (by omega) ⟨p0, p1⟩]
          exact f0.2 f p0 p1
        | _ + 3 => trivial
      have X : ∀ q : Nat, q < 101 ∨ 107 < q → s q = σ q := fun q hq => E q (by omega) (by omega) (by omega) (by omega)
      refine IC_mk (ICR_pm W S.1 bg_P S.2.2.1 (fun q hq => X q (by omega)) (ICM_s S.2.1 (ICM_e (fun q q1 q2 => X q (by omega)) R.2.2.2.2.2.1)) hF R) (ICK_s W K S (bg_j (by omega)) (bg_j (by omega)) (bg_q (by omega) (by omega)) (ICK_f (fun q q1 q2 => X q (by omega)) IK)) (ICW_s bg_D S.1 (ICW_f (fun q hq => X q (by omega)) IW)) ?_
      unfold ic9 at I9 ⊢; rw [X 116 (by omega), X 117 (by omega)]; exact ⟨I9.1, by omega, I9.2.2⟩
/-! a session is ended, what was told in it stays -/
def edA (a : Ab) : Ab := hset a 129 35 (-1)
theorem ed_q {q : Nat} (h : q ≠ 129) : edA a q = a q := hset_ne h
theorem ed_j {j : Int} (h : j ≠ 35) : edA a 129 j = a 129 j := hs_nj h
theorem ed_s : (edA a).saved = -1 := by unfold Ab.saved edA; exact hs_eq
theorem ed_V : sval a (edA a) := ⟨⟨fun q hq => ed_q (by omega), ed_j (by omega)⟩, ⟨ed_q (by omega), ed_q (by omega), ed_q (by omega), ed_q (by omega), ed_j (by omega)⟩, ⟨ed_j (by omega), ed_j (by omega)⟩, fun q h1 h2 => ed_q (by omega), ed_j (by omega), fun i _ => ⟨by unfold Ab.what; rw [ed_q (by omega)], by unfold Ab.one; rw [ed_q (by omega)], by unfold Ab.two; rw [ed_q (by omega)]⟩, fun s _ => by unfold Ab.len; rw [ed_q (by omega)]⟩
theorem ed_P : spk a (edA a) := ⟨ed_q (by omega), ed_q (by omega), ed_q (by omega)⟩
theorem ed_D : swd a (edA a) := ⟨ed_q (by omega), ed_q (by omega), ed_q (by omega), ed_q (by omega)⟩
theorem wfa_13n (h : a.saved = -1) : wfa a 13 ∧ wfa a 19 := ⟨⟨by omega, by omega, fun f f0 f1 => by omega⟩, fun f g f0 f1 => by omega⟩
theorem ed_W (W : WFA a) : WFA (edA a) := by
  have S := ed_V (a := a)
  have h130 : Ab.many (edA a) = a.many := S.1.1 130 (by omega)
  have h131 : Ab.kind (edA a) = a.kind := S.1.1 131 (by omega)
  have m1 : Ab.mk (edA a) = a.mk := S.2.1.1
  have m5 := S.2.1.2.2.2.2
  have h0 : Ab.ft (edA a) = a.ft := ed_q (by omega)
  have h1 : Ab.fa (edA a) = a.fa := ed_q (by omega)
  have h2 : Ab.fb (edA a) = a.fb := ed_q (by omega)
  have h3 : Ab.fm (edA a) = a.fm := ed_q (by omega)
  have h4 : Ab.fv (edA a) = a.fv := ed_q (by omega)
  have hf := S.2.2.2.2.1
  have w13 := wfa_13n (ed_s (a := a))
  refine WFA_all (wfa_s W S.1) (wfa_8 W S.2.2.1.1 S.2.2.1.2) (wfa_m W S.2.1) (fun k hk => ?_) (wfa_k W S.1 m5 (ed_q (by omega)) (ed_j (by omega))) (wfa_p W S.1 ed_P) (wfa_17 W (by unfold Ab.len; rw [ed_q (by omega)]))
  rcases hk with rfl | rfl | rfl | rfl
  · have := W 12; simp only [wfa, thr, isP, h130, h131, m1, m5, h0, h1, h2, h3, h4, hf] at this ⊢; exact this
  · exact w13.1
  · have := W 18; simp only [wfa, h0, h1, h2, h3, hf] at this ⊢; exact this
  · exact w13.2
/-! it is ended, and the facts are as they were -/
def enA (a : Ab) : Ab := fun q j => if q = 129 ∧ j = 35 then -1 else if q = 129 ∧ j = 40 then 0 else if q = 129 ∧ j = 29 then a.saved else if 150 ≤ q ∧ q ≤ 154 ∧ 0 ≤ j ∧ j < a.saved then a (q + 5) j else a q j
theorem en_q {q : Nat} (h : q ≠ 129) (h2 : q < 150 ∨ 154 < q) : enA a q = a q := by
  funext j; unfold enA; rw [if_neg (fun g => h g.1), if_neg (fun g => h g.1), if_neg (fun g => h g.1), if_neg (by omega)]
theorem en_j {j : Int} (h : j ≠ 35 ∧ j ≠ 40 ∧ j ≠ 29) : enA a 129 j = a 129 j := by
  unfold enA; rw [if_neg (fun g => h.1 g.2), if_neg (fun g => h.2.1 g.2), if_neg (fun g => h.2.2 g.2), if_neg (by omega)]
theorem en_s : (enA a).saved = -1 := by unfold Ab.saved enA; rw [if_pos ⟨rfl, rfl⟩]
theorem en_k : (enA a).keeps = 0 := by unfold Ab.keeps enA; rw [if_neg (by omega), if_pos ⟨rfl, rfl⟩]
theorem en_f : (enA a).facts = a.saved := by unfold Ab.facts enA; rw [if_neg (by omega), if_neg (by omega), if_pos ⟨rfl, rfl⟩]
theorem en_v {q : Nat} {j : Int} (h : 150 ≤ q ∧ q ≤ 154) (h2 : 0 ≤ j ∧ j < a.saved) : enA a q j = a (q + 5) j := by
  unfold enA; rw [if_neg (by omega), if_neg (by omega), if_neg (by omega), if_pos ⟨h.1, h.2, h2.1, h2.2⟩]
theorem en_S : smem a (enA a) := ⟨fun q hq => en_q (by omega) (by omega), en_j (by omega)⟩
theorem en_M : smea a (enA a) := ⟨en_q (by omega) (by omega), en_q (by omega) (by omega), en_q (by omega) (by omega), en_q (by omega) (by omega), en_j (by omega)⟩
theorem en_P : spk a (enA a) := ⟨en_q (by omega) (by omega), en_q (by omega) (by omega), en_q (by omega) (by omega)⟩
theorem en_D : swd a (enA a) := ⟨en_q (by omega) (by omega), en_q (by omega) (by omega), en_q (by omega) (by omega), en_q (by omega) (by omega)⟩
theorem en_vs {f : Int} (f0 : 0 ≤ f) (f1 : f < a.saved) : Ab.ft (enA a) f = a.st f ∧ Ab.fa (enA a) f = a.sa f ∧ Ab.fb (enA a) f = a.sb f ∧ Ab.fm (enA a) f = a.sm f ∧ Ab.fv (enA a) f = a.sv f := ⟨en_v (by omega) ⟨f0, f1⟩, en_v (by omega) ⟨f0, f1⟩, en_v (by omega) ⟨f0, f1⟩, en_v (by omega) ⟨f0, f1⟩, en_v (by omega) ⟨f0, f1⟩⟩
theorem en_W (W : WFA a) (h : 0 ≤ a.saved) : WFA (enA a) := by
  have S := en_S (a := a)
  have h130 : Ab.many (enA a) = a.many := S.1 130 (by omega)
  have h131 : Ab.kind (enA a) = a.kind := S.1 131 (by omega)
  have M := en_M (a := a)
  have m1 : Ab.mk (enA a) = a.mk := M.1
  have m5 := M.2.2.2.2
  have w13 := wfa_13n (en_s (a := a))
  refine WFA_all (wfa_s W S) (wfa_8 W (en_j (by omega)) (en_j (by omega))) (wfa_m W M) (fun k hk => ?_) (wfa_k0 en_k) (wfa_p W S en_P) (wfa_17 W (by unfold Ab.len; rw [en_q (by omega) (by omega)]))
  rcases hk with rfl | rfl | rfl | rfl
  · have := W 13
    simp only [wfa, thr, isP] at this
    simp only [wfa, thr, isP, h130, h131, m1, m5, en_f]
    refine ⟨h, this.2.1, fun f f0 f1 => ?_⟩
    obtain ⟨v0, v1, v2, v3, v4⟩ := en_vs f0 f1
    rw [v0, v1, v2, v3, v4]
    exact this.2.2 f f0 f1
  · exact w13.1
  · have := W 19
    simp only [wfa] at this
    simp only [wfa, en_f]
    intro f g f0 f1 g0 g1
    obtain ⟨v0, v1, v2, v3, v4⟩ := en_vs f0 f1
    obtain ⟨u0, u1, u2, u3, u4⟩ := en_vs g0 g1
    rw [v0, v1, v2, v3, u0, u1, u2, u3]
    exact this f g f0 f1 g0 g1
  · exact w13.2
def reS (t : Hp) (k : Int) : Hp := fun q j => if 150 ≤ q ∧ q ≤ 154 ∧ 0 ≤ j ∧ j < k then t (q + 5) j else t q j
theorem re_o {t : Hp} {k : Int} {q : Nat} (h : q < 150 ∨ 154 < q) : reS t k q = t q := by
  funext j; unfold reS; rw [if_neg (by omega)]
theorem re_0 (t : Hp) : reS t 0 = t := by
  funext q j; unfold reS; rw [if_neg (by omega)]
theorem re_step {t : Hp} {k v0 v1 v2 v3 v4 : Int} (k0 : 0 ≤ k) (h0 : v0 = t 155 k) (h1 : v1 = t 156 k) (h2 : v2 = t 157 k) (h3 : v3 = t 158 k) (h4 : v4 = t 159 k) : hset (hset (hset (hset (hset (reS t k) 150 k v0) 151 k v1) 152 k v2) 153 k v3) 154 k v4 = reS t (k + 1) := by
  funext q j
  by_cases hj : j = k
  · subst hj
    by_cases q5 : q = 150
    · subst q5; (repeat (first | rw [hset_ne (by omega)] | rw [hs_nj (by omega)] | rw [hs_eq])); unfold reS; rw [if_pos (by omega)]; exact h0
    by_cases q6 : q = 151
    · subst q6; (repeat (first | rw [hset_ne (by omega)] | rw [hs_nj (by omega)] | rw [hs_eq])); unfold reS; rw [if_pos (by omega)]; exact h1
    by_cases q7 : q = 152
    · subst q7; (repeat (first | rw [hset_ne (by omega)] | rw [hs_nj (by omega)] | rw [hs_eq])); unfold reS; rw [if_pos (by omega)]; exact h2
    by_cases q8 : q = 153
    · subst q8; (repeat (first | rw [hset_ne (by omega)] | rw [hs_nj (by omega)] | rw [hs_eq])); unfold reS; rw [if_pos (by omega)]; exact h3
    by_cases q9 : q = 154
    · subst q9; (repeat (first | rw [hset_ne (by omega)] | rw [hs_nj (by omega)] | rw [hs_eq])); unfold reS; rw [if_pos (by omega)]; exact h4
    rw [hset_ne q9, hset_ne q8, hset_ne q7, hset_ne q6, hset_ne q5, re_o (by omega), re_o (by omega)]
  · rw [hs_nj hj, hs_nj hj, hs_nj hj, hs_nj hj, hs_nj hj]
    unfold reS
    exact ifc (by omega) rfl rfl
theorem op_end (H : J σ a n B) (hB : B ≤ 100000) {x : Int} : OPT σ a n B e (fun code v b => TT a False (fun v b => TKs a b ∧ 0 ≤ v) code v b) (f_L_end σ e x) := by
  obtain ⟨W, K, V, I, VV, h1, h2⟩ := id H
  obtain ⟨R, IK, IW, I9⟩ := IC_r I
  have h12 : 0 ≤ a.facts ∧ a.facts ≤ 50 ∧ _ := W 12
  have h13 : -1 ≤ a.saved ∧ a.saved ≤ 50 ∧ _ := W 13
  have f1 : σ 101 2 = bI (0 ≤ a.saved) := R.2.2.2.2.2.2 1
  have f2 : 0 ≤ a.saved → σ 101 1 = a.saved ∧ ∀ f : Int, 0 ≤ f → f < a.saved → σ 105 f = 144 * a.st f + 12 * a.sa f + a.sb f ∧ σ 106 f = a.sm f ∧ σ 107 f = a.sv f := R.2.2.2.2.2.2 2
  have f0 : σ 101 0 = a.facts ∧ ∀ f : Int, 0 ≤ f → f < a.facts → σ 102 f = 144 * a.ft f + 12 * a.fa f + a.fb f ∧ σ 103 f = a.fm f ∧ σ 104 f = a.fv f := R.2.2.2.2.2.2 0
  have hh := hit_e IK
  by_cases h : 0 ≤ a.saved
  · have g2 := f2 h
    by_cases hx : x ≠ 0
    · have S := ed_V (a := a)
      have eh : (edA a).hits = a.hits := ed_j (by omega)
      refine ⟨0, a.facts, edA a, ⟨ed_W W, WFW_s K ed_D S.1, by rw [eh]; exact h1, by rw [eh]; omega⟩, (TT_0 (⟨TKs_s S.1 S.2.1.2.2.2.2 eh, h12.1⟩)), ?_⟩
      · unfold f_L_end
        refine L_ok (ed_W W) ?_
        unfold f_C_end
        rw [f1, bI_t h]
        refine ok_eqb need1 ?_
        rw [if_pos rfl, if_pos hx]
        refine ok_grd (by omega) (ok_some ⟨rfl, by dsimp only; rw [hs_nj (by omega)]; exact f0.1, fun q q1 q2 => hset_ne (by omega), ?_⟩)
        dsimp only
        have E : ∀ q : Nat, q ≠ 101 → hset σ 101 2 0 q = σ q := fun q q1 => hset_ne q1
        have E1 : ∀ j : Int, j ≠ 2 → hset σ 101 2 0 101 j = σ 101 j := fun j hj => hs_nj hj
        have E2 : hset σ 101 2 0 101 2 = 0 := hs_eq
        generalize hset σ 101 2 0 = s at E E1 E2 ⊢
        have hF : ICF s (edA a) := by
          intro k
          match k with
          | 0 =>
            have g := R.2.2.2.2.2.2 0
            have g0 : Ab.ft (edA a) = a.ft := ed_q (by omega)
            have g1 : Ab.fa (edA a) = a.fa := ed_q (by omega)
            have g2 : Ab.fb (edA a) = a.fb := ed_q (by omega)
            have g3 : Ab.fm (edA a) = a.fm := ed_q (by omega)
            have g4 : Ab.fv (edA a) = a.fv := ed_q (by omega)
            have g5 : Ab.facts (edA a) = a.facts := ed_j (by omega)
            simp only [icf, g0, g1, g2, g3, g4, g5, E 102 (by omega), E 103 (by omega), E 104 (by omega), E1 0 (by omega)] at g ⊢
            exact g
          | 1 =>
            simp only [icf, ed_s]
            rw [E2, bI_f (by omega)]
          | 2 =>
            simp only [icf, ed_s]
            intro g; omega
          | _ + 3 => trivial
        refine IC_mk (ICR_pm W S.1 ed_P S.2.2.1 (fun q hq => E q (by omega)) (ICM_s S.2.1 (ICM_e (fun q q1 q2 => E q (by omega)) R.2.2.2.2.2.1)) hF R) (ICK_s W K S (ed_j (by omega)) (ed_j (by omega)) (ed_q (by omega)) (ICK_f (fun q q1 q2 => E q (by omega)) IK)) (ICW_s ed_D S.1 (ICW_f (fun q hq => E q (by omega)) IW)) ?_
        unfold ic9 at I9 ⊢; rw [E 116 (by omega), E 117 (by omega)]; exact ⟨I9.1, by omega, I9.2.2⟩
    · have eh : (enA a).hits = a.hits := en_j (by omega)
      have S := en_S (a := a)
      refine ⟨0, a.saved, enA a, ⟨en_W W h, WFW_s K en_D S, by rw [eh]; exact h1, by rw [eh]; omega⟩, (TT_0 (⟨TKs_s S (en_j (by omega)) eh, h⟩)), ?_⟩
      · unfold f_L_end
        refine L_ok (en_W W h) ?_
        unfold f_C_end
        rw [f1, bI_t h]
        refine ok_eqb need1 ?_
        rw [if_pos rfl, if_neg hx]
        refine ok_grd (by omega) ?_
        unfold f_FR_restore
        refine ok_bind (ok_bind (ok_grd (by omega) (ok_grd (by omega) (ok_grd (by omega) (ok_some (ok_eqb (e_K_dropAll _) (ok_some (ok_some ?_))))))))
        have e1 : (hset σ 101 2 0) 101 1 = a.saved := by rw [hs_nj (by omega)]; exact g2.1
        rw [e1]
        generalize hs : hset (zCpy (zCpy (zCpy (hset (hset σ 101 2 0) 101 0 a.saved) 105 102 0 0 50) 106 103 0 0 50) 107 104 0 0 50) 108 0 0 = s
        have E : ∀ q : Nat, q ≠ 101 → q ≠ 102 → q ≠ 103 → q ≠ 104 → q ≠ 108 → s q = σ q := fun q q1 q2 q3 q4 q5 => by
          rw [← hs, hset_ne q5, zc_ne q4, zc_ne q3, zc_ne q2, hset_ne q1, hset_ne q1]
        have E1 : s 101 = hset (hset σ 101 2 0) 101 0 a.saved 101 := by
          rw [← hs, hset_ne (by omega), zc_ne (by omega), zc_ne (by omega), zc_ne (by omega)]
        have E8 : s 108 0 = 0 ∧ s 108 1 = σ 108 1 := by
          refine ⟨by rw [← hs, hs_eq], ?_⟩
          rw [← hs, hs_nj (by omega), zc_ne (by omega), zc_ne (by omega), zc_ne (by omega), hset_ne (by omega), hset_ne (by omega)]
        have E5 : ∀ j : Int, 0 ≤ j ∧ j < 50 → s 102 j = σ 105 j ∧ s 103 j = σ 106 j ∧ s 104 j = σ 107 j := fun j hj => by
          refine ⟨?_, ?_, ?_⟩
          · rw [← hs, hset_ne (by omega), zc_ne (by omega), zc_ne (by omega), zc_v hj, hset_ne (by omega), hset_ne (by omega)]
          · rw [← hs, hset_ne (by omega), zc_ne (by omega), zc_v hj, zc_ne (by omega), hset_ne (by omega), hset_ne (by omega)]
          · rw [← hs, hset_ne (by omega), zc_v hj, zc_ne (by omega), zc_ne (by omega), hset_ne (by omega), hset_ne (by omega)]
        have e10 : s 101 0 = a.saved := by rw [E1, hs_eq]
        refine ⟨rfl, e10, fun q q1 q2 => E q (by omega) (by omega) (by omega) (by omega) (by omega), ?_⟩
        dsimp only
        have hF : ICF s (enA a) := by
          intro k
          match k with
          | 0 =>
            simp only [icf, en_f]
            refine ⟨e10, fun f p0 p1 => ?_⟩
            have e5 := E5 f ⟨p0, by omega⟩
            obtain ⟨v0, v1, v2, v3, v4⟩ := en_vs (a := a) p0 p1
            rw [e5.1, e5.2.1, e5.2.2, v0, v1, v2, v3, v4]
            exact g2.2 f p0 p1
          | 1 =>
            simp only [icf, en_s]
            rw [E1, hs_nj (by omega), hs_eq, bI_f (by omega)]
          | 2 =>
            simp only [icf, en_s]
            intro g; omega
          | _ + 3 => trivial
        refine IC_mk (ICR_pm W S en_P ⟨en_j (by omega), en_j (by omega)⟩ (fun q hq => E q (by omega) (by omega) (by omega) (by omega) (by omega)) (ICM_s en_M (ICM_e (fun q q1 q2 => E q (by omega) (by omega) (by omega) (by omega) (by omega)) R.2.2.2.2.2.1)) hF R) (ICK_0 E8.1 (by rw [E8.2, eh]; exact hh.2) en_k) (ICW_s en_D S (ICW_f (fun q hq => E q (by omega) (by omega) (by omega) (by omega) (by omega)) IW)) ?_
        unfold ic9 at I9 ⊢; rw [E 116 (by omega) (by omega) (by omega) (by omega) (by omega), E 117 (by omega) (by omega) (by omega) (by omega) (by omega)]; exact ⟨I9.1, by omega, I9.2.2⟩
  · refine opt_er H 1 0 (TT_e ⟨by omega, by omega⟩ (fun q => q)) ?_
    · unfold f_L_end
      refine ok_eqb (v := (3, 0, σ)) ?_ ?_
      · unfold f_C_end; apply ok_eq
        rw [f1, bI_f h]
        refine ok_eqb need0 ?_
        rw [if_neg (by omega)]
        exact ok_grd (by omega) (ok_some rfl)
      · (rw [if_neg (by simp), if_pos rfl]; exact ok_some (LR_er W I (by omega) _ _ (by omega)))
end
