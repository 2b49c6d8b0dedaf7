/-! ===== the class drops; values where a fact changes that does not count ===== -/
section
variable {σ : Hp} {a b : Ab} {n : Nat} {B : Int} {e : Nat}
theorem e_K_shift {k l K : Int} (h0 : σ 108 0 = K) (hK : K ≤ 20) (k0 : 0 ≤ k) (k1 : k < K) (l0 : 0 ≤ l) (l1 : l ≤ k) : f_K_shift σ k l = some (hset (hset (hset σ 109 l (σ 109 k)) 110 l (σ 110 k)) 111 l (σ 111 k)) := by
  unfold f_K_shift; apply ok_eq
  refine ok_eqb (e_K_has σ k) ?_
  rw [bI_t ⟨k0, by omega, by omega⟩, if_neg (by omega)]
  refine ok_bind (ok_eqb (e_K_has σ l) ?_)
  rw [bI_t ⟨l0, by omega, by omega⟩, if_neg (by omega)]
  have e1 : (hset σ 109 l (σ 109 k)) 110 = σ 110 := hset_ne (by omega)
  have e2 : (hset (hset σ 109 l (σ 109 k)) 110 l (σ 110 k)) 111 = σ 111 := by rw [hset_ne (by omega), hset_ne (by omega)]
  rw [e1, e2]
  exact ok_grd (by omega) (ok_grd (by omega) (ok_grd (by omega) (ok_grd (by omega) (ok_grd (by omega) (ok_grd (by omega) (ok_some (ok_some rfl)))))))
/-- the class's kept rows stand for these codes -/
def rowsK (σ : Hp) (a : Ab) (kp : Int → Int) (K : Int) : Prop := ∀ i : Int, 0 ≤ i → i < K → ∃ t x y m : Int, cin a t x y ∧ 0 ≤ m ∧ m < a.measures ∧ kp i = 576 * t + 48 * x + 4 * y + m ∧ σ 109 i = clq t x y ∧ σ 110 i = m
theorem c_dropFor (W : WFA a) (R : ICR σ a) {kp : Int → Int} {K : Nat} (h0 : σ 108 0 = K) (hK : K ≤ 20) (hr : rowsK σ a kp K) {pt px py fm : Int} (hp : cin a pt px py) (hP : isP a 0 pt ∧ isP a 1 px ∧ isP a 2 py) (f0 : 0 ≤ fm) (f1 : fm < a.measures) : Okk (f_C_dropFor σ (clq pt px py) fm) fun s => (∀ q : Nat, q < 108 ∨ 111 < q → s q = σ q) ∧ s 108 1 = σ 108 1 ∧ s 108 0 = nC (stay (dropP a pt px py fm) kp) K ∧ ∀ i : Nat, i < K → stay (dropP a pt px py fm) kp i ≠ 0 → s 109 (nC (stay (dropP a pt px py fm) kp) i) = σ 109 i ∧ s 110 (nC (stay (dropP a pt px py fm) kp) i) = σ 110 i ∧ s 111 (nC (stay (dropP a pt px py fm) kp) i) = σ 111 i := by
  have L : ∀ (F k : Nat) (s : Hp), k ≤ K → K - k < F → (∀ q : Nat, q ≠ 109 → q ≠ 110 → q ≠ 111 → s q = σ q) → (∀ i : Int, k ≤ i → s 109 i = σ 109 i ∧ s 110 i = σ 110 i ∧ s 111 i = σ 111 i) → (∀ i : Nat, i < k → stay (dropP a pt px py fm) kp i ≠ 0 → s 109 (nC (stay (dropP a pt px py fm) kp) i) = σ 109 i ∧ s 110 (nC (stay (dropP a pt px py fm) kp) i) = σ 110 i ∧ s 111 (nC (stay (dropP a pt px py fm) kp) i) = σ 111 i) → Okk (f_C_dropFor_5 (clq pt px py) fm F (nC (stay (dropP a pt px py fm) kp) k) k s) fun r => r.1 = nC (stay (dropP a pt px py fm) kp) K ∧ (∀ q : Nat, q ≠ 109 → q ≠ 110 → q ≠ 111 → r.2.2 q = σ q) ∧ ∀ i : Nat, i < K → stay (dropP a pt px py fm) kp i ≠ 0 → r.2.2 109 (nC (stay (dropP a pt px py fm) kp) i) = σ 109 i ∧ r.2.2 110 (nC (stay (dropP a pt px py fm) kp) i) = σ 110 i ∧ r.2.2 111 (nC (stay (dropP a pt px py fm) kp) i) = σ 111 i := by
    intro F
    induction F with
    | zero => intro k s hk hF; omega
    | succ F ih =>
      intro k s hk hF E hup hlo
      have e108 : s 108 0 = K := by rw [E 108 (by omega) (by omega) (by omega)]; exact h0
      rw [f_C_dropFor_5, e108]
      refine ok_ite (fun g => ok_some ?_) (fun g => ?_)
      · have : k = K := by omega
        subst this; exact ⟨rfl, E, hlo⟩
      obtain ⟨t, x, y, m, q1, q2, q3, q4, q5, q6⟩ := hr k (by omega) (by omega)
      have Rs : ICR s a := ICR_f W (fun q hq => E q (by omega) (by omega) (by omega)) R
      have u := hup k (by omega)
      have nb := nC_b (stay (dropP a pt px py fm) kp) k
      have t12 := thr12 W iD0 q1.1
      have x12 := thr12 W iD1 q1.2.1
      have y12 := thr12 W iD2 q1.2.2
      have m4 := (mea W q2 q3).1
      have c1 : kp k / 576 = t := by rw [q4]; omega
      have c2 : kp k / 48 % 12 = x := by rw [q4]; omega
      have c3 : kp k / 4 % 12 = y := by rw [q4]; omega
      have c4 : kp k % 4 = m := by rw [q4]; omega
      have DP : dropP a pt px py fm (kp k) ↔ (0 ≤ lead a t x y ∨ (nds a m fm ∧ cnt a pt px py t x y ≠ 0)) := by unfold dropP; rw [c1, c2, c3, c4]
      refine ok_eqb (v := clq t x y) ((e_K_cellAt s k).trans (by rw [e108, if_pos ⟨by omega, by omega, by omega⟩, u.1, q5])) ?_
      refine ok_eqb (v := m) ((e_K_measureAt s k).trans (by rw [e108, if_pos ⟨by omega, by omega, by omega⟩, u.2.1, q6])) ?_
      refine ok_eqb (r_MS_needs W Rs.2.2.2.2.2.1 q2 q3 f0 f1) (ok_eqb (r_S_isCalculated W Rs q1) ?_)
      refine ok_call (P := fun r => r = bI (dropP a pt px py fm (kp k))) ?_ ?_
      · by_cases hl : 0 ≤ lead a t x y
        · rw [bI_t hl, if_pos (by omega)]; exact ok_some (bI_t (DP.mpr (Or.inl hl))).symm
        · rw [bI_f hl, if_neg (by omega)]
          by_cases hn : nds a m fm
          · rw [bI_t hn, if_neg (by omega)]
            have hlm := (lead_d W q1).resolve_right (fun q => hl q.2.1)
            refine ok_eqb (r_S_weight W Rs hp hP q1 hlm.1) (ok_ite (fun q => ok_some (bI_f (fun p => ?_)).symm) (fun q => ok_some (bI_t (DP.mpr (Or.inr ⟨hn, q⟩))).symm))
            rcases DP.mp p with p | p
            · exact hl p
            · exact p.2 q
          · rw [bI_f hn, if_pos rfl]
            refine ok_some (bI_f (fun p => ?_)).symm
            rcases DP.mp p with p | p
            · exact hl p
            · exact hn p.1
      · rintro r rfl
        by_cases hD : dropP a pt px py fm (kp k)
        · have hs : stay (dropP a pt px py fm) kp k = 0 := stay_0 hD
          rw [bI_t hD, if_pos (by omega)]
          refine ok_bind (ok_some (ok_grd (by (first | omega | (unfold r32; omega) | (unfold r64; omega) | (simp only [r32, r64] at *; omega))) ?_))
          have := ih (k + 1) s (by omega) (by omega) E (fun i hi => hup i (by omega)) (fun i hi hsi => ?_)
          · rw [nC_n hs, show ((k + 1 : Nat) : Int) = (k : Int) + 1 by omega] at this; exact this
          · by_cases ei : i = k
            · rw [ei] at hsi; exact absurd hs hsi
            · exact hlo i (by omega) hsi
        · have hs : stay (dropP a pt px py fm) kp k ≠ 0 := stay_1 hD
          rw [bI_f hD, if_neg (by omega)]
          refine ok_bind (ok_eqb (e_K_shift e108 (by omega) (by omega) (by omega) nb.1 nb.2) (ok_grd (by (first | omega | (unfold r32; omega) | (unfold r64; omega) | (simp only [r32, r64] at *; omega))) (ok_some (ok_grd (by (first | omega | (unfold r32; omega) | (unfold r64; omega) | (simp only [r32, r64] at *; omega))) ?_))))
          dsimp only
          have := ih (k + 1) (hset (hset (hset s 109 (nC (stay (dropP a pt px py fm) kp) k) (s 109 k)) 110 (nC (stay (dropP a pt px py fm) kp) k) (s 110 k)) 111 (nC (stay (dropP a pt px py fm) kp) k) (s 111 k)) (by omega) (by omega) (fun q a1 a2 a3 => by rw [hset_ne a3, hset_ne a2, hset_ne a1]; exact E q a1 a2 a3) (fun i hi => ?_) (fun i hi hsi => ?_)
          · rw [nC_y hs, show ((k + 1 : Nat) : Int) = (k : Int) + 1 by omega] at this; exact this
          · have X : ∀ (q : Nat), (hset (hset (hset s 109 (nC (stay (dropP a pt px py fm) kp) k) (s 109 k)) 110 (nC (stay (dropP a pt px py fm) kp) k) (s 110 k)) 111 (nC (stay (dropP a pt px py fm) kp) k) (s 111 k)) q i = s q i := fun q => by rw [hs_nj (by omega), hs_nj (by omega), hs_nj (by omega)]
            rw [X, X, X]
            exact hup i (by omega)
          · by_cases ei : i = k
            · subst ei
              rw [hset_ne (by omega : (109 : Nat) ≠ 111), hset_ne (by omega : (109 : Nat) ≠ 110), hset_ne (by omega : (110 : Nat) ≠ 111), hs_eq, hs_eq, hs_eq]; exact u
            · have hne : nC (stay (dropP a pt px py fm) kp) i ≠ nC (stay (dropP a pt px py fm) kp) k := by
                have h1 := nC_le (stay (dropP a pt px py fm) kp) (i + 1) (k - (i + 1))
                rw [show i + 1 + (k - (i + 1)) = k by omega, nC_y hsi] at h1
                omega
              have X : ∀ (q : Nat), (hset (hset (hset s 109 (nC (stay (dropP a pt px py fm) kp) k) (s 109 k)) 110 (nC (stay (dropP a pt px py fm) kp) k) (s 110 k)) 111 (nC (stay (dropP a pt px py fm) kp) k) (s 111 k)) q (nC (stay (dropP a pt px py fm) kp) i) = s q (nC (stay (dropP a pt px py fm) kp) i) := fun q => by rw [hs_nj hne, hs_nj hne, hs_nj hne]
              rw [X, X, X]
              exact hlo i (by omega) hsi
  unfold f_C_dropFor
  refine ok_call (L zFuel 0 σ (by omega) (by unfold zFuel; omega) (fun _ _ _ _ => rfl) (fun _ _ => ⟨rfl, rfl, rfl⟩) (fun i hi => absurd hi (by omega))) ?_
  rintro r ⟨r1, r2, r3⟩
  refine ok_some ⟨fun q hq => ?_, ?_, ?_, fun i hi hsi => ?_⟩
  · rw [hset_ne (by omega)]; exact r2 q (by omega) (by omega) (by omega)
  · rw [hs_nj (by omega), r2 108 (by omega) (by omega) (by omega)]
  · rw [hs_eq, r1]
  · rw [hset_ne (by omega), hset_ne (by omega), hset_ne (by omega)]; exact r3 i hi hsi
/-! values: sums and the like over rows of facts -/
theorem lastF_e {c c' pl pl' : Int → Int} : ∀ (k : Nat), (∀ f : Int, 0 ≤ f → f < k → c f = c' f ∧ (c f ≠ 0 → pl f = pl' f)) → lastF c pl k = lastF c' pl' k
  | 0, _ => rfl
  | k + 1, h => by
    have ih := lastF_e k (fun f h0 h1 => h f h0 (by omega))
    have hk := h k (by omega) (by omega)
    unfold lastF
    rw [ih, ← hk.1]
    by_cases z : c k = 0
    · rw [if_neg (fun q => q.1 z), if_neg (fun q => q.1 z)]
    · rw [hk.2 z]
theorem diffF_e {c c' v v' : Int → Int} : ∀ (k : Nat), (∀ f : Int, 0 ≤ f → f < k → c f = c' f ∧ (c f ≠ 0 → v f = v' f)) → diffF c v k = diffF c' v' k
  | 0, _ => rfl
  | k + 1, h => by
    have ih := diffF_e k (fun f h0 h1 => h f h0 (by omega))
    have hk := h k (by omega) (by omega)
    unfold diffF
    rw [ih]
    by_cases z : c k ≠ 0 ∧ ∀ g : Nat, g < k → c g ≠ 0 → v g ≠ v k
    · rw [if_pos z, if_pos ⟨by rw [← hk.1]; exact z.1, fun g hg hc => by
        have hg' := h g (by omega) (by omega)
        rw [← hg'.1] at hc
        rw [← hg'.2 hc, ← hk.2 z.1]
        exact z.2 g hg hc⟩]
    · rw [if_neg z, if_neg (fun q => z ⟨by rw [hk.1]; exact q.1, fun g hg hc => by
        have hg' := h g (by omega) (by omega)
        have hck : c k ≠ 0 := by rw [hk.1]; exact q.1
        rw [hg'.2 hc, hk.2 hck]
        rw [hg'.1] at hc
        exact q.2 g hg hc⟩)]
/-- f taken out of a row -/
def tak (f : Int) (c : Int → Int) : Int → Int := fun i => if i < f then c i else c (i + 1)
theorem tak_l {f : Int} {c : Int → Int} {i : Int} (h : i < f) : tak f c i = c i := if_pos h
theorem tak_g {f : Int} {c : Int → Int} {i : Int} (h : f ≤ i) : tak f c i = c (i + 1) := if_neg (by omega)
theorem lastF_t {c pl : Int → Int} {f : Nat} (h : c f = 0) : ∀ j : Nat, lastF (tak f c) (tak f pl) (f + j) = lastF c pl (f + j + 1)
  | 0 => by
    have e1 : lastF (tak f c) (tak f pl) f = lastF c pl f := lastF_e f (fun i i0 i1 => ⟨tak_l i1, fun _ => tak_l i1⟩)
    show lastF (tak f c) (tak f pl) f = (if c f ≠ 0 ∧ lastF c pl f < pl f then pl f else lastF c pl f)
    rw [if_neg (fun q => q.1 h), e1]
  | j + 1 => by
    have ih := lastF_t (c := c) (pl := pl) h j
    show (if tak f c ((f + j : Nat) : Int) ≠ 0 ∧ lastF (tak f c) (tak f pl) (f + j) < tak f pl ((f + j : Nat) : Int) then tak f pl ((f + j : Nat) : Int) else lastF (tak f c) (tak f pl) (f + j)) = (if c ((f + j + 1 : Nat) : Int) ≠ 0 ∧ lastF c pl (f + j + 1) < pl ((f + j + 1 : Nat) : Int) then pl ((f + j + 1 : Nat) : Int) else lastF c pl (f + j + 1))
    rw [ih, tak_g (by omega), tak_g (by omega), show ((f + j : Nat) : Int) + 1 = ((f + j + 1 : Nat) : Int) by omega]
theorem sumF_t {c v : Int → Int} {f : Nat} (h : c f = 0) : ∀ j : Nat, sumF (tak f c) (tak f v) (f + j) = sumF c v (f + j + 1)
  | 0 => by
    have e1 : sumF (tak f c) (tak f v) f = sumF c v f := sumF_e f (fun i i0 i1 => ⟨tak_l i1, fun _ => tak_l i1⟩)
    show sumF (tak f c) (tak f v) f = sumF c v f + c f * v f
    rw [h, e1]; omega
  | j + 1 => by
    have ih := sumF_t (c := c) (v := v) h j
    show sumF (tak f c) (tak f v) (f + j) + tak f c ((f + j : Nat) : Int) * tak f v ((f + j : Nat) : Int) = sumF c v (f + j + 1) + c ((f + j + 1 : Nat) : Int) * v ((f + j + 1 : Nat) : Int)
    rw [ih, tak_g (by omega), tak_g (by omega), show ((f + j : Nat) : Int) + 1 = ((f + j + 1 : Nat) : Int) by omega]
theorem diffF_t {c v : Int → Int} {f : Nat} (h : c f = 0) : ∀ j : Nat, diffF (tak f c) (tak f v) (f + j) = diffF c v (f + j + 1)
  | 0 => by
    have e1 : diffF (tak f c) (tak f v) f = diffF c v f := diffF_e f (fun i i0 i1 => ⟨tak_l i1, fun _ => tak_l i1⟩)
    show diffF (tak f c) (tak f v) f = @ite _ (c f ≠ 0 ∧ ∀ g : Nat, g < f → c g ≠ 0 → v g ≠ v f) (Classical.propDecidable _) (diffF c v f + 1) (diffF c v f)
    rw [if_neg (fun q => q.1 h), e1]
  | j + 1 => by
    have ih := diffF_t (c := c) (v := v) h j
    have e1 : tak f c ((f + j : Nat) : Int) = c ((f + j + 1 : Nat) : Int) := by rw [tak_g (by omega), show ((f + j : Nat) : Int) + 1 = ((f + j + 1 : Nat) : Int) by omega]
    have e2 : tak f v ((f + j : Nat) : Int) = v ((f + j + 1 : Nat) : Int) := by rw [tak_g (by omega), show ((f + j : Nat) : Int) + 1 = ((f + j + 1 : Nat) : Int) by omega]
    show @ite _ (tak f c ((f + j : Nat) : Int) ≠ 0 ∧ ∀ g : Nat, g < f + j → tak f c g ≠ 0 → tak f v g ≠ tak f v ((f + j : Nat) : Int)) (Classical.propDecidable _) (diffF (tak f c) (tak f v) (f + j) + 1) (diffF (tak f c) (tak f v) (f + j)) = @ite _ (c ((f + j + 1 : Nat) : Int) ≠ 0 ∧ ∀ g : Nat, g < f + j + 1 → c g ≠ 0 → v g ≠ v ((f + j + 1 : Nat) : Int)) (Classical.propDecidable _) (diffF c v (f + j + 1) + 1) (diffF c v (f + j + 1))
    have I : (tak f c ((f + j : Nat) : Int) ≠ 0 ∧ ∀ g : Nat, g < f + j → tak f c g ≠ 0 → tak f v g ≠ tak f v ((f + j : Nat) : Int)) ↔ (c ((f + j + 1 : Nat) : Int) ≠ 0 ∧ ∀ g : Nat, g < f + j + 1 → c g ≠ 0 → v g ≠ v ((f + j + 1 : Nat) : Int)) := by
      rw [e1, e2]
      refine ⟨fun q => ⟨q.1, fun g hg hc => ?_⟩, fun q => ⟨q.1, fun g hg hc => ?_⟩⟩
      · rcases Nat.lt_trichotomy g f with l | l | l
        · have := q.2 g (by omega) (by rw [tak_l (by omega)]; exact hc)
          rw [tak_l (by omega)] at this; exact this
        · rw [l] at hc; exact absurd h hc
        · have e3 : ((g - 1 : Nat) : Int) + 1 = (g : Int) := by omega
          have := q.2 (g - 1) (by omega) (by rw [tak_g (by omega), e3]; exact hc)
          rw [tak_g (by omega), e3] at this; exact this
      · by_cases l : g < f
        · rw [tak_l (by omega)] at hc ⊢; exact q.2 g (by omega) hc
        · have e3 : (g : Int) + 1 = ((g + 1 : Nat) : Int) := by omega
          rw [tak_g (by omega), e3] at hc ⊢
          exact q.2 (g + 1) (by omega) hc
    by_cases q : tak f c ((f + j : Nat) : Int) ≠ 0 ∧ ∀ g : Nat, g < f + j → tak f c g ≠ 0 → tak f v g ≠ tak f v ((f + j : Nat) : Int)
    · rw [if_pos q, if_pos (I.mp q), ih]
    · rw [if_neg q, if_neg (fun p => q (I.mpr p)), ih]
/-- the reference's facts, all but those named the same -/
def sfx (a b : Ab) : Prop := smem a b ∧ smea a b ∧ (b.asNow = a.asNow ∧ b.leave = a.leave)
theorem who_i (W : WFA a) (S : sfx a b) {t x y : Int} : ∀ (F : Nat) (m : Int), 0 ≤ m → m < a.measures → m < F → (∀ m' : Int, 0 ≤ m' → m' < a.measures → nds a m m' → plnV b m' t x y = plnV a m' t x y) → whoF b t x y F m = whoF a t x y F m
  | 0, m, m0, m1, hF, _ => by omega
  | F + 1, m, m0, m1, hF, hp => by
    have hk : b.mk = a.mk := S.2.1.1
    have ha : b.ma = a.ma := S.2.1.2.1
    have hb : b.mb = a.mb := S.2.1.2.2.1
    have hm := mea W m0 m1
    unfold whoF
    rw [hk, ha, hb]
    by_cases h3 : a.mk m = 3
    · have hab := hm.2.2.2 h3
      rw [if_pos h3, if_pos h3, who_i W S F (a.ma m) (by omega) (by omega) (by omega) (fun m' q0 q1 q2 => hp m' q0 q1 ((nds_s W m0 m1).mpr (Or.inr ⟨h3, Or.inl q2⟩))), who_i W S F (a.mb m) (by omega) (by omega) (by omega) (fun m' q0 q1 q2 => hp m' q0 q1 ((nds_s W m0 m1).mpr (Or.inr ⟨h3, Or.inr q2⟩)))]
    · rw [if_neg h3, if_neg h3]; exact hp m m0 m1 ((nds_s W m0 m1).mpr (Or.inl rfl))
theorem val_i (W : WFA a) (S : sfx a b) {m t x y : Int} (m0 : 0 ≤ m) (m1 : m < a.measures) (hl : lead a t x y = -1) (hp : ∀ m' : Int, 0 ≤ m' → m' < a.measures → nds a m m' → plnV b m' t x y = plnV a m' t x y) : val b m t x y = val a m t x y := by
  have hl' : lead b t x y = -1 := by rw [lead_c S.1]; exact hl
  have hd : b.md = a.md := S.2.1.2.2.2.1
  have h131 : b.kind = a.kind := S.1.1 131 (by omega)
  have hw : who b m t x y = who a m t x y := who_i W S _ m m0 m1 (by omega) hp
  have hn : nth b m t x y ↔ nth a m t x y := by simp only [nth, isP, h131, hd, dep_c (sm_p S.1)]
  rw [val_p hl, val_p hl', hw]
  by_cases g : nth a m t x y
  · rw [if_pos g, if_pos (hn.mpr g)]
  · rw [if_neg g, if_neg (fun q => g (hn.mp q))]
/-- a fact's number -/
theorem pln_A (S : sfx a b) {f : Int} (h0 : b.ft = a.ft) (h1 : b.fa = a.fa) (h2 : b.fb = a.fb) (h3 : b.fm = a.fm) (h4 : ∀ i : Int, i ≠ f → b.fv i = a.fv i) (hf : b.facts = a.facts) {m t x y : Int} (hc : cnf a m t x y f = 0) : plnV b m t x y = plnV a m t x y := by
  have ec : cnf b m t x y = cnf a m t x y := by
    funext i
    simp only [cnf, h0, h1, h2, h3, cnt_c S.1 S.2.2]
  have h145 : b.place = a.place := S.1.1 145 (by omega)
  have hk : b.mk = a.mk := S.2.1.1
  have hv : ∀ i : Int, cnf a m t x y i ≠ 0 → b.fv i = a.fv i := fun i hi => h4 i (fun q => hi (by rw [q]; exact hc))
  have eD : diffF (cnf a m t x y) b.fv a.facts.toNat = diffF (cnf a m t x y) a.fv a.facts.toNat := diffF_e _ (fun i _ _ => ⟨rfl, hv i⟩)
  have eS : sumF (cnf a m t x y) b.fv a.facts.toNat = sumF (cnf a m t x y) a.fv a.facts.toNat := sumF_e _ (fun i _ _ => ⟨rfl, hv i⟩)
  have eL : ∀ z : Int, sumF (fun f => if a.place (a.ft f) = z then cnf a m t x y f else 0) b.fv a.facts.toNat = sumF (fun f => if a.place (a.ft f) = z then cnf a m t x y f else 0) a.fv a.facts.toNat := fun z => sumF_e _ (fun i _ _ => ⟨rfl, fun q => hv i (by
    by_cases e : a.place (a.ft i) = z
    · rw [if_pos e] at q; exact q
    · rw [if_neg e] at q; exact absurd rfl q)⟩)
  unfold plnV
  rw [ec, h0, h145, hk, hf, eD, eS, eL]
/-- a fact more -/
theorem pln_B (W : WFA a) (S : sfx a b) (h0 : ∀ i : Int, i ≠ a.facts → b.ft i = a.ft i ∧ b.fa i = a.fa i ∧ b.fb i = a.fb i ∧ b.fm i = a.fm i ∧ b.fv i = a.fv i) (hf : b.facts = a.facts + 1) {m t x y : Int} (hc : cnf b m t x y a.facts = 0) : plnV b m t x y = plnV a m t x y := by
  have h12 : 0 ≤ a.facts ∧ a.facts ≤ 50 ∧ _ := W 12
  have ec : ∀ i : Int, i ≠ a.facts → cnf b m t x y i = cnf a m t x y i := by
    intro i hi
    have h := h0 i hi
    simp only [cnf, h.1, h.2.1, h.2.2.1, h.2.2.2.1, cnt_c S.1 S.2.2]
  have h145 : b.place = a.place := S.1.1 145 (by omega)
  have hk : b.mk = a.mk := S.2.1.1
  have eK : b.facts.toNat = a.facts.toNat + 1 := by omega
  have eA : ((a.facts.toNat : Nat) : Int) = a.facts := by omega
  have cK : cnf b m t x y ((a.facts.toNat : Nat) : Int) = 0 := by rw [eA]; exact hc
  have e1 : lastF (cnf b m t x y) (fun f => b.place (b.ft f)) b.facts.toNat = lastF (cnf a m t x y) (fun f => a.place (a.ft f)) a.facts.toNat := by
    rw [eK]
    show (if cnf b m t x y ((a.facts.toNat : Nat) : Int) ≠ 0 ∧ _ then _ else lastF (cnf b m t x y) (fun f => b.place (b.ft f)) a.facts.toNat) = _
    rw [if_neg (fun q => q.1 cK)]
    exact lastF_e _ (fun i i0 i1 => ⟨ec i (by omega), fun _ => by show b.place (b.ft i) = a.place (a.ft i); rw [h145, (h0 i (by omega)).1]⟩)
  have e2 : diffF (cnf b m t x y) b.fv b.facts.toNat = diffF (cnf a m t x y) a.fv a.facts.toNat := by
    rw [eK]
    show @ite _ (cnf b m t x y ((a.facts.toNat : Nat) : Int) ≠ 0 ∧ _) (Classical.propDecidable _) _ (diffF (cnf b m t x y) b.fv a.facts.toNat) = _
    rw [if_neg (fun q => q.1 cK)]
    exact diffF_e _ (fun i i0 i1 => ⟨ec i (by omega), fun _ => (h0 i (by omega)).2.2.2.2⟩)
  have e3 : sumF (cnf b m t x y) b.fv b.facts.toNat = sumF (cnf a m t x y) a.fv a.facts.toNat := by
    rw [eK]
    show sumF (cnf b m t x y) b.fv a.facts.toNat + cnf b m t x y ((a.facts.toNat : Nat) : Int) * _ = _
    rw [cK, Int.zero_mul, Int.add_zero]
    exact sumF_e _ (fun i i0 i1 => ⟨ec i (by omega), fun _ => (h0 i (by omega)).2.2.2.2⟩)
  have e4 : ∀ z : Int, sumF (fun f => if b.place (b.ft f) = z then cnf b m t x y f else 0) b.fv b.facts.toNat = sumF (fun f => if a.place (a.ft f) = z then cnf a m t x y f else 0) a.fv a.facts.toNat := by
    intro z
    rw [eK]
    show sumF (fun f => if b.place (b.ft f) = z then cnf b m t x y f else 0) b.fv a.facts.toNat + (if b.place (b.ft ((a.facts.toNat : Nat) : Int)) = z then cnf b m t x y ((a.facts.toNat : Nat) : Int) else 0) * _ = _
    rw [cK, ite_self, Int.zero_mul, Int.add_zero]
    refine sumF_e _ (fun i i0 i1 => ⟨?_, fun _ => (h0 i (by omega)).2.2.2.2⟩)
    rw [ec i (by omega), h145, (h0 i (by omega)).1]
  unfold plnV
  rw [e1, e2, e3, e4, hk]
/-- a fact less -/
theorem pln_C (W : WFA a) (S : sfx a b) {f : Int} (f0 : 0 ≤ f) (f1 : f < a.facts) (h0 : ∀ i : Int, 0 ≤ i → i < a.facts - 1 → b.ft i = tak f a.ft i ∧ b.fa i = tak f a.fa i ∧ b.fb i = tak f a.fb i ∧ b.fm i = tak f a.fm i ∧ b.fv i = tak f a.fv i) (hf : b.facts = a.facts - 1) {m t x y : Int} (hc : cnf a m t x y f = 0) : plnV b m t x y = plnV a m t x y := by
  have h12 : 0 ≤ a.facts ∧ a.facts ≤ 50 ∧ _ := W 12
  obtain ⟨g, rfl⟩ : ∃ g : Nat, f = g := ⟨f.toNat, by omega⟩
  have ec : ∀ i : Int, 0 ≤ i → i < a.facts - 1 → cnf b m t x y i = tak g (cnf a m t x y) i := by
    intro i i0 i1
    have h := h0 i i0 i1
    by_cases l : i < (g : Int)
    · rw [tak_l l] at *
      rw [tak_l l, tak_l l, tak_l l, tak_l l] at h
      simp only [cnf, h.1, h.2.1, h.2.2.1, h.2.2.2.1, cnt_c S.1 S.2.2]
    · rw [tak_g (by omega)]
      rw [tak_g (by omega), tak_g (by omega), tak_g (by omega), tak_g (by omega), tak_g (by omega)] at h
      simp only [cnf, h.1, h.2.1, h.2.2.1, h.2.2.2.1, cnt_c S.1 S.2.2]
  have h145 : b.place = a.place := S.1.1 145 (by omega)
  have hk : b.mk = a.mk := S.2.1.1
  obtain ⟨j, hj⟩ : ∃ j : Nat, b.facts.toNat = g + j := ⟨b.facts.toNat - g, by omega⟩
  have hA : a.facts.toNat = g + j + 1 := by omega
  have pl : ∀ i : Int, 0 ≤ i → i < a.facts - 1 → b.place (b.ft i) = tak g (fun f => a.place (a.ft f)) i := by
    intro i i0 i1
    have h := (h0 i i0 i1).1
    rw [h145, h]
    by_cases l : i < (g : Int)
    · rw [tak_l l, tak_l l]
    · rw [tak_g (by omega), tak_g (by omega)]
  have e1 : lastF (cnf b m t x y) (fun f => b.place (b.ft f)) b.facts.toNat = lastF (cnf a m t x y) (fun f => a.place (a.ft f)) a.facts.toNat := by
    rw [hj, hA, ← lastF_t hc j]
    exact lastF_e _ (fun i i0 i1 => ⟨ec i i0 (by omega), fun _ => pl i i0 (by omega)⟩)
  have e2 : diffF (cnf b m t x y) b.fv b.facts.toNat = diffF (cnf a m t x y) a.fv a.facts.toNat := by
    rw [hj, hA, ← diffF_t hc j]
    exact diffF_e _ (fun i i0 i1 => ⟨ec i i0 (by omega), fun _ => (h0 i i0 (by omega)).2.2.2.2⟩)
  have e3 : sumF (cnf b m t x y) b.fv b.facts.toNat = sumF (cnf a m t x y) a.fv a.facts.toNat := by
    rw [hj, hA, ← sumF_t hc j]
    exact sumF_e _ (fun i i0 i1 => ⟨ec i i0 (by omega), fun _ => (h0 i i0 (by omega)).2.2.2.2⟩)
  have e4 : ∀ z : Int, sumF (fun f => if b.place (b.ft f) = z then cnf b m t x y f else 0) b.fv b.facts.toNat = sumF (fun f => if a.place (a.ft f) = z then cnf a m t x y f else 0) a.fv a.facts.toNat := by
    intro z
    rw [hj, hA, ← sumF_t (c := fun f => if a.place (a.ft f) = z then cnf a m t x y f else 0) (f := g) (by show (if a.place (a.ft g) = z then cnf a m t x y g else 0) = 0; rw [hc, ite_self]) j]
    refine sumF_e _ (fun i i0 i1 => ⟨?_, fun _ => (h0 i i0 (by omega)).2.2.2.2⟩)
    have p := pl i i0 (by omega)
    rw [ec i i0 (by omega), p]
    by_cases l : i < (g : Int)
    · rw [tak_l l, tak_l l, tak_l l]
    · rw [tak_g (by omega), tak_g (by omega), tak_g (by omega)]
  unfold plnV
  rw [e1, e2, e3, e4, hk]
end
