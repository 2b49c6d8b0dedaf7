def MS (σ : Hp) (a : Ab) : Prop := Vw σ a ∧ (∀ c : Int, 0 ≤ c → c < 13824 → σ 161 c ≤ σ 129 38) ∧ icv σ a 0 1
/-- only memo, base and the pile from b up may differ -/
def vch (b : Int) (σ σ' : Hp) : Prop := (∀ q : Nat, q ≠ 129 → q ≠ 160 → q ≠ 161 → q ≠ 166 → σ' q = σ q) ∧ (∀ j : Int, j ≠ 46 → σ' 129 j = σ 129 j) ∧ ∀ j : Int, j < b → σ' 166 j = σ 166 j
theorem vch_r (b : Int) (σ : Hp) : vch b σ σ := ⟨fun _ _ _ _ _ => rfl, fun _ _ => rfl, fun _ _ => rfl⟩
theorem vch_t {b b' : Int} {σ σ' σ'' : Hp} (h1 : vch b σ σ') (h2 : vch b' σ' σ'') (h : b ≤ b') : vch b σ σ'' := ⟨fun q a1 a2 a3 a4 => (h2.1 q a1 a2 a3 a4).trans (h1.1 q a1 a2 a3 a4), fun j hj => (h2.2.1 j hj).trans (h1.2.1 j hj), fun j hj => (h2.2.2 j (by omega)).trans (h1.2.2 j hj)⟩
theorem MS_c {σ σ' : Hp} {a : Ab} (M : MS σ a) (h1 : ∀ q : Nat, q ≠ 129 → q ≠ 166 → σ' q = σ q) (h2 : ∀ j : Int, j ≠ 46 → σ' 129 j = σ 129 j) : MS σ' a := by
  have e38 := h2 38 (by omega)
  have e160 := h1 160 (by omega) (by omega)
  have e161 := h1 161 (by omega) (by omega)
  refine ⟨fun q j hq => ?_, ?_, ?_⟩
  · by_cases e : q = 129
    · subst e
      rw [h2 j (by intro g; subst g; unfold vwP at hq; omega)]; exact M.1 _ _ hq
    · rw [h1 q e (by intro g; subst g; unfold vwP at hq; omega)]; exact M.1 _ _ hq
  · rw [e161, e38]; exact M.2.1
  · have := M.2.2
    unfold icv at this ⊢
    rw [e160, e161, e38]; exact this
theorem MS_b {σ : Hp} {a : Ab} (M : MS σ a) (v : Int) : MS (hset σ 129 46 v) a := MS_c M (fun q h _ => hset_ne h) (fun j hj => hs_nj hj)
theorem MS_p {σ : Hp} {a : Ab} (M : MS σ a) (i v : Int) : MS (hset σ 166 i v) a := MS_c M (fun q _ h => hset_ne h) (fun j hj => hs_ne (by omega))
/-- a value is laid into the memo -/
theorem MS_set {σ : Hp} {a : Ab} (W : WFA a) (M : MS σ a) {t x y m v off : Int} (h : cin a t x y) (m0 : 0 ≤ m) (m1 : m < a.measures) (ho : (off = 0 ∧ v = val a m t x y) ∨ (off = 6912 ∧ lead a t x y = -1 ∧ v = who a m t x y)) : MS (hset (hset σ 161 (off + 576 * t + 48 * x + 4 * y + m) (σ 129 38)) 160 (off + 576 * t + 48 * x + 4 * y + m) v) a := by
  have t12 := thr12 W iD0 h.1
  have x12 := thr12 W iD1 h.2.1
  have y12 := thr12 W iD2 h.2.2
  have m4 := (mea W m0 m1).1
  obtain ⟨V, M1, M2⟩ := M
  have M2' : ∀ t x y m : Int, thr a 0 t → thr a 1 x → thr a 2 y → 0 ≤ m → m < a.measures → (σ 161 (576 * t + 48 * x + 4 * y + m) = σ 129 38 → σ 160 (576 * t + 48 * x + 4 * y + m) = val a m t x y) ∧ (σ 161 (6912 + 576 * t + 48 * x + 4 * y + m) = σ 129 38 → lead a t x y = -1 ∧ σ 160 (6912 + 576 * t + 48 * x + 4 * y + m) = who a m t x y) := M2
  refine ⟨?_, ?_, ?_⟩
  · exact Vw_h (Vw_h V (by unfold vwP; omega)) (by unfold vwP; omega)
  · intro c c0 c1
    rw [hs_ne (by omega : (129 : Nat) ≠ 160), hs_ne (by omega : (129 : Nat) ≠ 161), hs_ne (by omega : (161 : Nat) ≠ 160)]
    by_cases e : c = off + 576 * t + 48 * x + 4 * y + m
    · rw [e, hs_eq]; omega
    · rw [hs_nj e]; exact M1 c c0 c1
  · intro t' x' y' m' ht' hx' hy' m0' m1'
    have t12' := thr12 W iD0 ht'
    have x12' := thr12 W iD1 hx'
    have y12' := thr12 W iD2 hy'
    have m4' := (mea W m0' m1').1
    have H := M2' t' x' y' m' ht' hx' hy' m0' m1'
    rw [hs_ne (by omega : (129 : Nat) ≠ 160), hs_ne (by omega : (129 : Nat) ≠ 161), hs_ne (by omega : (161 : Nat) ≠ 160), hs_ne (by omega : (161 : Nat) ≠ 160)]
    refine ⟨fun g => ?_, fun g => ?_⟩
    · by_cases e : 576 * t' + 48 * x' + 4 * y' + m' = off + 576 * t + 48 * x + 4 * y + m
      · rw [e, hs_eq]
        rcases ho with ho | ho
        · have e1 : t' = t := by omega
          have e2 : x' = x := by omega
          have e3 : y' = y := by omega
          have e4 : m' = m := by omega
          rw [e1, e2, e3, e4]; exact ho.2
        · omega
      · rw [hs_nj e, hset_ne (by omega : (160 : Nat) ≠ 161)]
        rw [hs_nj e] at g
        exact H.1 g
    · by_cases e : 6912 + 576 * t' + 48 * x' + 4 * y' + m' = off + 576 * t + 48 * x + 4 * y + m
      · rw [e, hs_eq]
        rcases ho with ho | ho
        · omega
        · have e1 : t' = t := by omega
          have e2 : x' = x := by omega
          have e3 : y' = y := by omega
          have e4 : m' = m := by omega
          rw [e1, e2, e3, e4]; exact ho.2
      · rw [hs_nj e, hset_ne (by omega : (160 : Nat) ≠ 161)]
        rw [hs_nj e] at g
        exact H.2 g
def stk (f : Int → Int) (b : Int) : List Int → Prop
  | [] => True
  | q :: r => f (b + r.length) = q ∧ stk f b r
theorem stk_c {f g : Int → Int} {b : Int} : ∀ (l : List Int), (∀ j : Int, b ≤ j → j < b + l.length → g j = f j) → stk f b l → stk g b l
  | [], _, _ => trivial
  | q :: r, h, H => by
    simp only [List.length_cons] at h
    refine ⟨?_, stk_c r (fun j j0 j1 => h j j0 (by omega)) H.2⟩
    rw [h _ (by omega) (by omega)]; exact H.1
/-- what the reference's value does, as a hypothesis for those that call it -/
def mVok (a : Ab) (m : Int) (V : Hp → Int → Int → Int → Int → Int → Option (Int × Hp)) (c : Int) : Prop := ∀ (σ : Hp) (t x y : Int), MS σ a → cin a t x y → crk a t x y < c → 0 ≤ σ 129 46 → σ 129 46 + 10 * (crk a t x y + 1) ≤ 3690 → Okk (V σ t x y m 0) fun r => r.1 = val a m t x y ∧ MS r.2 a ∧ vch (σ 129 46) σ r.2 ∧ r.2 129 46 = σ 129 46
theorem lok_0 {v : Int → Int → Int → Int} {a : Ab} {d z s t x y : Int} (hs : s = 0) : lokV v a d z s t x y = v (withD d z t x y).1 (withD d z t x y).2.1 (withD d z t x y).2.2 := if_pos hs
theorem lok_y {v : Int → Int → Int → Int} {a : Ab} {d z s t x y : Int} (hs : s ≠ 0) (h : isP a 0 (withD d z t x y).1 ∧ 0 ≤ bck a (withD d z t x y).1 s) : lokV v a d z s t x y = v (bck a (withD d z t x y).1 s) (withD d z t x y).2.1 (withD d z t x y).2.2 := by
  unfold lokV; rw [if_neg hs]; exact if_pos h
theorem lok_n {v : Int → Int → Int → Int} {a : Ab} {d z s t x y : Int} (hs : s ≠ 0) (h : ¬ (isP a 0 (withD d z t x y).1 ∧ 0 ≤ bck a (withD d z t x y).1 s)) : lokV v a d z s t x y = zNO := by
  unfold lokV; rw [if_neg hs]; exact if_neg h
theorem datF_s (v : Int → Int) (a : Ab) (t : Int) (k : Nat) : datF v a t (k + 1) = if isP a 0 k ∧ ((k : Int) = t ∨ (0 < t ∧ 0 < (k : Int) ∧ a.par k = a.par t)) then pls (datF v a t k) (v k) 1 else datF v a t k := by
  rw [datF]
  simp only [show (0 < k) = (0 < (k : Int)) from propext ⟨fun g => by omega, fun g => by omega⟩]
