/-! ===== measure ===== -/
section
variable {σ : Hp} {a a' : Ab} {n : Nat} {B : Int} {e : Nat}
/-- the reference with a measure more -/
def msA (a : Ab) (k f g : Int) : Ab := hset (hset (hset (hset a 146 a.measures k) 147 a.measures f) 148 a.measures g) 129 23 (a.measures + 1)
section
variable {k f g : Int}
theorem ms_q {q : Nat} (h : q ≠ 129) (h1 : q ≠ 146) (h2 : q ≠ 147) (h3 : q ≠ 148) : frs (msA a k f g) q = a q := by unfold msA; rw [frs_q h, hset_ne h, hset_ne h3, hset_ne h2, hset_ne h1]
theorem ms_j {j : Int} (h : j ≠ 40) (h2 : j ≠ 23) : frs (msA a k f g) 129 j = a 129 j := by unfold msA; rw [frs_j h, hs_nj h2, hset_ne (by omega), hset_ne (by omega), hset_ne (by omega)]
theorem ms_m : (frs (msA a k f g)).measures = a.measures + 1 := by show frs (msA a k f g) 129 23 = _; unfold msA; rw [frs_j (by omega), hs_eq]
theorem ms_k (i : Int) : (frs (msA a k f g)).mk i = if i = a.measures then k else a.mk i := by show frs (msA a k f g) 146 i = _; unfold msA; rw [frs_q (by omega), hset_ne (by omega), hset_ne (by omega), hset_ne (by omega)]; exact hs_if
theorem ms_a (i : Int) : (frs (msA a k f g)).ma i = if i = a.measures then f else a.ma i := by
  show frs (msA a k f g) 147 i = _; unfold msA; rw [frs_q (by omega), hset_ne (by omega), hset_ne (by omega), hs_if]
  by_cases h : i = a.measures
  · rw [if_pos h, if_pos h]
  · rw [if_neg h, if_neg h, hset_ne (by omega)]; rfl
theorem ms_b (i : Int) : (frs (msA a k f g)).mb i = if i = a.measures then g else a.mb i := by
  show frs (msA a k f g) 148 i = _; unfold msA; rw [frs_q (by omega), hset_ne (by omega), hs_if]
  by_cases h : i = a.measures
  · rw [if_pos h, if_pos h]
  · rw [if_neg h, if_neg h, hset_ne (by omega), hset_ne (by omega)]; rfl
theorem ms_nF (W : WFA a) (o : Int) : ∀ (F : Nat) (m : Int), 0 ≤ m → m < a.measures → (ndsF (frs (msA a k f g)) o F m ↔ ndsF a o F m)
  | 0, _, _, _ => Iff.rfl
  | F + 1, m, m0, m1 => by
    have hm := mea W m0 m1
    simp only [ndsF, ms_k, ms_a, ms_b, if_neg (show ¬ m = a.measures by omega)]
    by_cases h : a.mk m = 3
    · have := hm.2.2.2 h
      rw [ms_nF W o F (a.ma m) (by omega) (by omega), ms_nF W o F (a.mb m) (by omega) (by omega)]
    · simp only [h, false_and]
end
theorem e_MS_add (H : ICM σ a) (W : WFA a) {k f g : Int} (hm : a.measures < 4) (hk : k = 3 → (0 ≤ f ∧ f < a.measures) ∧ (0 ≤ g ∧ g < a.measures)) : Okk (f_MS_add σ k f g) fun r => r.1 = a.measures ∧ (∀ q : Nat, q < 95 ∨ 99 < q → r.2 q = σ q) ∧ r.2 95 0 = a.measures + 1 ∧ (∀ i : Int, r.2 96 i = if i = a.measures then k else σ 96 i) ∧ (∀ i : Int, i ≠ a.measures → r.2 97 i = σ 97 i ∧ r.2 98 i = σ 98 i ∧ r.2 99 i = σ 99 i) ∧ (k = 3 → r.2 97 a.measures = f ∧ r.2 98 a.measures = g ∧ r.2 99 a.measures = ior (ishl 1 a.measures) (ior (σ 99 f) (σ 99 g))) ∧ (k ≠ 3 → r.2 99 a.measures = ishl 1 a.measures) := by
  have h0 : σ 95 0 = a.measures := H 0
  have h10 : 0 ≤ a.measures ∧ a.measures ≤ 4 ∧ _ := W 10
  unfold f_MS_add
  rw [h0, if_pos hm]
  have e1 : (hset σ 96 a.measures k) 95 0 = a.measures := by rw [hset_ne (by omega)]; exact h0
  rw [e1]
  generalize hs : hset (hset σ 96 a.measures k) 99 a.measures (ishl 1 a.measures) = s
  have s95 : s 95 0 = a.measures := by subst hs; rw [hset_ne (by omega)]; exact e1
  refine ok_grd (by omega) (ok_grd (by omega) (ok_call (P := fun t => (∀ q : Nat, q < 96 ∨ 99 < q → t q = σ q) ∧ (∀ i : Int, t 96 i = if i = a.measures then k else σ 96 i) ∧ (∀ i : Int, i ≠ a.measures → t 97 i = σ 97 i ∧ t 98 i = σ 98 i ∧ t 99 i = σ 99 i) ∧ (k = 3 → t 97 a.measures = f ∧ t 98 a.measures = g ∧ t 99 a.measures = ior (ishl 1 a.measures) (ior (σ 99 f) (σ 99 g))) ∧ (k ≠ 3 → t 99 a.measures = ishl 1 a.measures)) ?_ ?_))
  · by_cases h3 : k = 3
    · obtain ⟨hf, hg⟩ := hk h3
      have h95 : ∀ x : Int, 0 ≤ x → x < a.measures → f_MS_has s x = some 1 := fun x x0 x1 => by
        rw [e_MS_has, s95, bI_t ⟨x0, x1, by omega⟩]
      rw [if_neg (fun q => q h3)]
      refine ok_eqb (h95 f hf.1 hf.2) ?_
      rw [if_neg (by omega)]
      refine ok_eqb (h95 g hg.1 hg.2) ?_
      rw [if_neg (by omega), s95]
      have t1 : (hset s 97 a.measures f) 95 0 = a.measures := by rw [hset_ne (by omega)]; exact s95
      rw [t1]
      generalize ht : hset (hset s 97 a.measures f) 98 a.measures g = t
      have t95 : t 95 0 = a.measures := by subst ht; rw [hset_ne (by omega)]; exact t1
      have t99 : t 99 = s 99 := by subst ht; rw [hset_ne (by omega), hset_ne (by omega)]
      rw [t95, t99]
      have f1 : s 99 f = σ 99 f := by subst hs; rw [hs_nj (by omega), hset_ne (by omega)]
      have g1 : s 99 g = σ 99 g := by subst hs; rw [hs_nj (by omega), hset_ne (by omega)]
      have m1 : s 99 a.measures = ishl 1 a.measures := by subst hs; exact hs_eq
      rw [f1, g1, m1]
      refine ok_grd (by omega) (ok_grd (by omega) (ok_grd (by omega) (ok_grd (by omega) (ok_grd (by omega) (ok_grd (by omega) (ok_some ⟨fun q hq => ?_, fun i => ?_, fun i hi => ⟨?_, ?_, ?_⟩, fun _ => ⟨?_, ?_, ?_⟩, fun q => absurd h3 q⟩))))))
      · subst ht; subst hs; (repeat (first | rw [hset_ne (by omega)] | rw [hs_nj (by omega)] | rw [hs_eq]))
      · subst ht; subst hs; rw [hset_ne (by omega), hset_ne (by omega), hset_ne (by omega), hset_ne (by omega)]; exact hs_if
      · subst ht; subst hs; rw [hset_ne (by omega), hset_ne (by omega), hs_nj hi, hset_ne (by omega), hset_ne (by omega)]
      · subst ht; subst hs; rw [hset_ne (by omega), hs_nj hi, hset_ne (by omega), hset_ne (by omega), hset_ne (by omega)]
      · rw [hs_nj hi, t99]; subst hs; rw [hs_nj hi, hset_ne (by omega)]
      · subst ht; rw [hset_ne (by omega), hset_ne (by omega)]; exact hs_eq
      · subst ht; rw [hset_ne (by omega)]; exact hs_eq
      · exact hs_eq
    · rw [if_pos h3]
      refine ok_some ⟨fun q hq => ?_, fun i => ?_, fun i hi => ⟨?_, ?_, ?_⟩, fun q => absurd q h3, fun _ => ?_⟩
      · subst hs; rw [hset_ne (by omega), hset_ne (by omega)]
      · subst hs; rw [hset_ne (by omega)]; exact hs_if
      · subst hs; rw [hset_ne (by omega), hset_ne (by omega)]
      · subst hs; rw [hset_ne (by omega), hset_ne (by omega)]
      · subst hs; rw [hs_nj hi, hset_ne (by omega)]
      · subst hs; exact hs_eq
  · rintro t ⟨t1, t2, t3, t4, t5⟩
    have t95 : t 95 0 = a.measures := by rw [t1 95 (by omega)]; exact h0
    rw [t95]
    have u : (hset t 95 0 (a.measures + 1)) 95 0 = a.measures + 1 := hs_eq
    have U : ∀ q : Nat, q ≠ 95 → (hset t 95 0 (a.measures + 1)) q = t q := fun q hq => hset_ne hq
    rw [u]
    refine ok_grd (by (first | omega | (unfold r32; omega) | (unfold r64; omega) | (simp only [r32, r64] at *; omega))) (ok_grd (by (first | omega | (unfold r32; omega) | (unfold r64; omega) | (simp only [r32, r64] at *; omega))) (ok_some ⟨by dsimp only; omega, fun q hq => ?_, u, ?_, ?_, ?_, ?_⟩))
    · dsimp only; rw [U q (by omega), t1 q (by omega)]
    · dsimp only; rw [U 96 (by omega)]; exact t2
    · dsimp only; rw [U 97 (by omega), U 98 (by omega), U 99 (by omega)]; exact t3
    · dsimp only; rw [U 97 (by omega), U 98 (by omega), U 99 (by omega)]; exact t4
    · dsimp only; rw [U 99 (by omega)]; exact t5
theorem op_measure (H : J σ a n B) (hB : B ≤ 100000) (k f g : Int) : OPT σ a n B e (fun code v b => TT a (((k = 3 → (0 ≤ f ∧ f < a.measures) ∧ (0 ≤ g ∧ g < a.measures)) ∧ (0 ≤ k ∧ k ≤ 3)) ∧ a.measures < 4) (fun v b => v = a.measures ∧ (∀ d : Int, inD d → b.many d = a.many d) ∧ b.measures = a.measures + 1 ∧ b.hits = a.hits) code v b) (f_L_measure σ e k f g) := by
  obtain ⟨W, K, V, I, VV, h1, h2⟩ := id H
  obtain ⟨R, IK, IW, I9⟩ := IC_r I
  have hh := hit_e IK
  have h10 : 0 ≤ a.measures ∧ a.measures ≤ 4 ∧ ∀ m : Int, 0 ≤ m → m < a.measures → 0 ≤ a.mk m ∧ a.mk m ≤ 3 ∧ (a.mk m = 3 → 0 ≤ a.ma m ∧ a.ma m < m ∧ 0 ≤ a.mb m ∧ a.mb m < m) := W 10
  have c0 : σ 95 0 = a.measures := R.2.2.2.2.2.1 0
  have hj1 : (k = 3 → (0 ≤ f ∧ f < a.measures) ∧ (0 ≤ g ∧ g < a.measures)) → Okk (if k ≠ 3 then some (0, ()) else (f_C_needMeasure σ f).bind fun v3 => if v3 = 0 then (f_C_needMeasure σ g).bind fun v6 => if v6 = 0 then some (0, ()) else grd (v6 ≤ 3) <| some (v6, ()) else grd (v3 ≤ 3) <| some (v3, ()) : Option (Nat × Unit)) fun r => r = (0, ()) := by
    intro q
    refine ok_ite (fun _ => ok_some rfl) (fun h3 => ?_)
    have q' := q (Classical.not_not.mp h3)
    refine ok_eqb (nS_y W R.2.2.2.2.2.1 q'.1) ?_
    rw [if_pos rfl]
    refine ok_eqb (nS_y W R.2.2.2.2.2.1 q'.2) ?_
    rw [if_pos rfl]
    exact ok_some rfl
  by_cases h : k = 3 → (0 ≤ f ∧ f < a.measures) ∧ (0 ≤ g ∧ g < a.measures)
  · by_cases hk : 0 ≤ k ∧ k ≤ 3
    · by_cases hm : a.measures < 4
      · have S' : smem a (frs (msA a k f g)) := ⟨fun q hq => ms_q (by omega) (by omega) (by omega) (by omega), ms_j (by omega) (by omega)⟩
        have F : sfac a (frs (msA a k f g)) := ⟨fun q h1 h2 => ms_q (by omega) (by omega) (by omega) (by omega), ms_j (by omega) (by omega), ms_j (by omega) (by omega)⟩
        have P : spk a (frs (msA a k f g)) := ⟨ms_q (by omega) (by omega) (by omega) (by omega), ms_q (by omega) (by omega) (by omega) (by omega), ms_q (by omega) (by omega) (by omega) (by omega)⟩
        have D : swd a (frs (msA a k f g)) := ⟨ms_q (by omega) (by omega) (by omega) (by omega), ms_q (by omega) (by omega) (by omega) (by omega), ms_q (by omega) (by omega) (by omega) (by omega), ms_q (by omega) (by omega) (by omega) (by omega)⟩
        have a3 : (frs (msA a k f g)).hits = a.hits := ms_j (by omega) (by omega)
        have h149 : (frs (msA a k f g)).md = a.md := ms_q (by omega) (by omega) (by omega) (by omega)
        have W' : WFA (frs (msA a k f g)) := by
          refine WFA_all (wfa_s W S') (wfa_8 W (ms_j (by omega) (by omega)) (ms_j (by omega) (by omega))) (fun j hj => ?_) (fun j hj => ?_) (wfa_k0 (frs_0 _)) (wfa_p W S' P) (wfa_17 W (by unfold Ab.len; rw [D.2.2.2]))
          · rcases hj with rfl | rfl
            · refine (show 0 ≤ (frs (msA a k f g)).measures ∧ (frs (msA a k f g)).measures ≤ 4 ∧ ∀ m : Int, 0 ≤ m → m < (frs (msA a k f g)).measures → 0 ≤ (frs (msA a k f g)).mk m ∧ (frs (msA a k f g)).mk m ≤ 3 ∧ ((frs (msA a k f g)).mk m = 3 → 0 ≤ (frs (msA a k f g)).ma m ∧ (frs (msA a k f g)).ma m < m ∧ 0 ≤ (frs (msA a k f g)).mb m ∧ (frs (msA a k f g)).mb m < m) from ?_)
              rw [ms_m]
              refine ⟨by omega, by omega, fun m m0 m1 => ?_⟩
              rw [ms_k, ms_a, ms_b]
              by_cases q : m = a.measures
              · rw [if_pos q, if_pos q, if_pos q]
                exact ⟨hk.1, hk.2, fun q3 => by have := h q3; omega⟩
              · rw [if_neg q, if_neg q, if_neg q]; exact h10.2.2 m m0 (by omega)
            · have := W 11; simp only [wfa, h149] at this ⊢; exact this
          · have h130 : (frs (msA a k f g)).many = a.many := S'.1 130 (by omega)
            have h131 : (frs (msA a k f g)).kind = a.kind := S'.1 131 (by omega)
            have f0 : (frs (msA a k f g)).ft = a.ft := F.1 150 (by omega) (by omega)
            have f1 : (frs (msA a k f g)).fa = a.fa := F.1 151 (by omega) (by omega)
            have f2 : (frs (msA a k f g)).fb = a.fb := F.1 152 (by omega) (by omega)
            have f3 : (frs (msA a k f g)).fm = a.fm := F.1 153 (by omega) (by omega)
            have f4 : (frs (msA a k f g)).fv = a.fv := F.1 154 (by omega) (by omega)
            have f5 : (frs (msA a k f g)).st = a.st := F.1 155 (by omega) (by omega)
            have f6 : (frs (msA a k f g)).sa = a.sa := F.1 156 (by omega) (by omega)
            have f7 : (frs (msA a k f g)).sb = a.sb := F.1 157 (by omega) (by omega)
            have f8 : (frs (msA a k f g)).sm = a.sm := F.1 158 (by omega) (by omega)
            have f9 : (frs (msA a k f g)).sv = a.sv := F.1 159 (by omega) (by omega)
            have ff : (frs (msA a k f g)).facts = a.facts := F.2.1
            have fs : (frs (msA a k f g)).saved = a.saved := F.2.2
            rcases hj with rfl | rfl | rfl | rfl
            · have := W 12
              simp only [wfa, thr, isP, h130, h131, ms_m, ms_k, f0, f1, f2, f3, f4, ff] at this ⊢
              refine ⟨this.1, this.2.1, fun i i0 i1 => ?_⟩
              obtain ⟨g1, g2, g3, g4, g5, g6, g7, g8, g9, g10⟩ := this.2.2 i i0 i1
              exact ⟨g1, g2, g3, g4, g5, g6, g7, by omega, by rw [if_neg (by omega)]; exact g9, g10⟩
            · have := W 13
              simp only [wfa, thr, isP, h130, h131, ms_m, ms_k, f5, f6, f7, f8, f9, fs] at this ⊢
              refine ⟨this.1, this.2.1, fun i i0 i1 => ?_⟩
              obtain ⟨g1, g2, g3, g4, g5, g6, g7, g8, g9, g10⟩ := this.2.2 i i0 i1
              exact ⟨g1, g2, g3, g4, g5, g6, g7, by omega, by rw [if_neg (by omega)]; exact g9, g10⟩
            · have := W 18; simp only [wfa, f0, f1, f2, f3, ff] at this ⊢; exact this
            · have := W 19; simp only [wfa, f5, f6, f7, f8, fs] at this ⊢; exact this
        have hbit : ∀ m : Int, 0 ≤ m → m < a.measures → 0 ≤ σ 99 m ∧ σ 99 m < 16 ∧ ∀ o : Int, 0 ≤ o → o < 4 → (bitP (σ 99 m) o ↔ nds a m o) := R.2.2.2.2.2.1 2
        have hM1 : ∀ m : Int, 0 ≤ m → m < a.measures → σ 96 m = a.mk m ∧ (a.mk m = 3 → σ 97 m = a.ma m ∧ σ 98 m = a.mb m) := R.2.2.2.2.2.1 1
        have hsh : 0 ≤ ishl 1 a.measures ∧ ishl 1 a.measures < 16 ∧ ∀ o : Int, 0 ≤ o → (bitP (ishl 1 a.measures) o ↔ o = a.measures) := by
          rw [shl_e h10.1 (by omega)]
          refine ⟨?_, ?_, fun o o0 => pow_bit h10.1 o0⟩
          · exact Int.pow_nonneg (by omega)
          · have e4 : a.measures = 0 ∨ a.measures = 1 ∨ a.measures = 2 ∨ a.measures = 3 := by omega
            rcases e4 with e4 | e4 | e4 | e4 <;> rw [e4] <;> decide
        refine ⟨0, a.measures, frs (msA a k f g), ⟨W', WFW_s K D S', by rw [a3]; exact h1, by rw [a3]; omega⟩, (TT_0 (⟨rfl, fun _ _ => congrFun (S'.1 130 (by omega)) _, ms_m, a3⟩)), ?_⟩
        · unfold f_L_measure
          refine L_ok W' ?_
          unfold f_C_measure
          refine ok_call (hj1 h) ?_
          rintro r rfl
          rw [if_pos rfl]
          refine ok_eqb (nR_y hk) ?_
          rw [if_pos rfl, if_neg (by omega)]
          refine ok_bind (ok_some (ok_eqb need1 ?_))
          rw [if_pos rfl]
          refine ok_call (e_MS_add R.2.2.2.2.2.1 W hm h) ?_
          rintro r ⟨r1, r2, r3, r4, r5, r6, r7⟩
          refine ok_eqb (e_K_dropAll _) (ok_some ⟨rfl, r1, fun q q1 q2 => ?_, ?_⟩)
          · show hset r.2 108 0 0 q = σ q
            rw [hset_ne (by omega), r2 q (by omega)]
          · dsimp only
            have E : ∀ q : Nat, q < 95 ∨ 99 < q → q ≠ 108 → hset r.2 108 0 0 q = σ q := fun q q1 q2 => by rw [hset_ne q2, r2 q q1]
            have E2 : ∀ q : Nat, q ≠ 108 → hset r.2 108 0 0 q = r.2 q := fun q hq => hset_ne hq
            refine IC_mk (ICR_pm W S' P ⟨ms_j (by omega) (by omega), ms_j (by omega) (by omega)⟩ (fun q hq => E q (by omega) (by omega)) (fun j => ?_) (ICF_s F (ICF_e (fun q _ _ => E q (by omega) (by omega)) R.2.2.2.2.2.2)) R) (ICK_0 hs_eq (by rw [hs_nj (by omega), r2 108 (by omega), hh.2, a3]) (frs_0 _)) (ICW_s D S' (ICW_f (fun q hq => E q (by omega) (by omega)) IW)) ?_
            · match j with
              | 0 =>
                show hset r.2 108 0 0 95 0 = (frs (msA a k f g)).measures
                rw [E2 95 (by omega), r3, ms_m]
              | 1 =>
                intro m m0 m1
                rw [ms_m] at m1
                rw [E2 96 (by omega), E2 97 (by omega), E2 98 (by omega), r4, ms_k, ms_a, ms_b]
                by_cases q : m = a.measures
                · rw [if_pos q, if_pos q, if_pos q, if_pos q, q]
                  exact ⟨rfl, fun q3 => ⟨(r6 q3).1, (r6 q3).2.1⟩⟩
                · rw [if_neg q, if_neg q, if_neg q, if_neg q, (r5 m q).1, (r5 m q).2.1]
                  exact hM1 m m0 (by omega)
              | 2 =>
                intro m m0 m1
                rw [ms_m] at m1
                rw [E2 99 (by omega)]
                by_cases q : m = a.measures
                · have NS : ∀ o : Int, nds (frs (msA a k f g)) m o ↔ (m = o ∨ (k = 3 ∧ (nds a f o ∨ nds a g o))) := by
                    intro o
                    rw [nds_s W' m0 (by rw [ms_m]; omega), ms_k, ms_a, ms_b, if_pos q, if_pos q, if_pos q]
                    by_cases q3 : k = 3
                    · obtain ⟨hf, hg⟩ := h q3
                      unfold nds
                      rw [ms_nF W o _ f hf.1 hf.2, ms_nF W o _ g hg.1 hg.2]
                    · simp only [q3, false_and]
                  by_cases q3 : k = 3
                  · obtain ⟨hf, hg⟩ := h q3
                    have bf := hbit f hf.1 hf.2
                    have bg := hbit g hg.1 hg.2
                    have o1 := orn_r bf.1 bf.2.1 bg.1 bg.2.1
                    have o2 := orn_r hsh.1 hsh.2.1 o1.1 o1.2.1
                    rw [q, (r6 q3).2.2]
                    refine ⟨o2.1, o2.2.1, fun o o0 o4 => ?_⟩
                    rw [o2.2.2 o o0, o1.2.2 o o0, hsh.2.2 o o0, bf.2.2 o o0 o4, bg.2.2 o o0 o4, ← q, NS o]
                    exact ⟨fun p => by
                      rcases p with p | p
                      · exact Or.inl p.symm
                      · exact Or.inr ⟨q3, p⟩, fun p => by
                      rcases p with p | p
                      · exact Or.inl p.symm
                      · exact Or.inr p.2⟩
                  · rw [q, r7 q3]
                    refine ⟨hsh.1, hsh.2.1, fun o o0 o4 => ?_⟩
                    rw [hsh.2.2 o o0, ← q, NS o]
                    exact ⟨fun p => Or.inl p.symm, fun p => by
                      rcases p with p | p
                      · exact p.symm
                      · exact absurd p.1 q3⟩
                · have bm := hbit m m0 (by omega)
                  rw [(r5 m q).2.2]
                  refine ⟨bm.1, bm.2.1, fun o o0 o4 => ?_⟩
                  rw [bm.2.2 o o0 o4]
                  unfold nds
                  rw [ms_nF W o _ m m0 (by omega)]
              | 3 =>
                intro i i0 i1
                rw [E 100 (by omega) (by omega), h149]
                exact (show ∀ i : Int, 0 ≤ i → i < 12 → σ 100 i = a.md i from R.2.2.2.2.2.1 3) i i0 i1
              | _ + 4 => trivial
            · unfold ic9 at I9 ⊢; rw [E 116 (by omega) (by omega), E 117 (by omega) (by omega)]; exact ⟨I9.1, by omega, I9.2.2⟩
      · refine opt_er H 3 0 (TT_e ⟨by omega, by omega⟩ (fun q => hm q.2)) ?_
        · unfold f_L_measure
          refine ok_eqb (v := (3, 0, σ)) ?_ ?_
          · unfold f_C_measure; apply ok_eq
            refine ok_call (hj1 h) ?_
            rintro r rfl
            rw [if_pos rfl]
            refine ok_eqb (nR_y hk) ?_
            rw [if_pos rfl, if_pos (by omega)]
            refine ok_bind (ok_some (ok_eqb need0 ?_))
            rw [if_neg (by omega)]
            exact ok_grd (by omega) (ok_some rfl)
          · (rw [if_neg (by simp), if_neg (by simp), if_neg (by simp), if_pos rfl]; exact ok_some (LR_er W I (by omega) _ _ (by omega)))
    · refine opt_er H 2 0 (TT_e ⟨by omega, by omega⟩ (fun q => hk q.1.2)) ?_
      · unfold f_L_measure
        refine ok_eqb (v := (2, 0, σ)) ?_ ?_
        · unfold f_C_measure; apply ok_eq
          refine ok_call (hj1 h) ?_
          rintro r rfl
          rw [if_pos rfl]
          refine ok_eqb (nR_n hk) ?_
          rw [if_neg (by omega)]
          exact ok_grd (by omega) (ok_some rfl)
        · (rw [if_neg (by simp), if_neg (by simp), if_pos rfl]; exact ok_some (LR_er W I (by omega) _ _ (by omega)))
  · have h3 : k = 3 := Classical.byContradiction (fun q => h (fun p => absurd p q))
    refine opt_er H 1 0 (TT_e ⟨by omega, by omega⟩ (fun q => h q.1.1)) ?_
    · unfold f_L_measure
      refine ok_eqb (v := (1, 0, σ)) ?_ ?_
      · unfold f_C_measure; apply ok_eq
        refine ok_call (P := fun r => r = (1, ())) ?_ ?_
        · rw [if_neg (fun q => q h3)]
          by_cases hf : 0 ≤ f ∧ f < a.measures
          · refine ok_eqb (nS_y W R.2.2.2.2.2.1 hf) ?_
            rw [if_pos rfl]
            refine ok_eqb (nS_n R.2.2.2.2.2.1 (fun q => h (fun _ => ⟨hf, q⟩))) ?_
            rw [if_neg (by omega)]
            exact ok_grd (by omega) (ok_some rfl)
          · refine ok_eqb (nS_n R.2.2.2.2.2.1 hf) ?_
            rw [if_neg (by omega)]
            exact ok_grd (by omega) (ok_some rfl)
        · rintro r rfl
          rw [if_neg (by simp)]
          exact ok_some rfl
      · (rw [if_neg (by simp), if_pos rfl]; exact ok_some (LR_er W I (by omega) _ _ (by omega)))
end
