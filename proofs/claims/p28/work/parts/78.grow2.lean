/-! ===== a member more ===== -/
section
variable {σ : Hp} {a a' b : Ab} {n : Nat} {B : Int} {e : Nat}
def nwA (a : Ab) (d kd pr sg st o : Int) : Ab := hset (hset (hset (hset (hset (hset a 130 d (a.many d + 1)) 131 (12 * d + a.many d) kd) 132 (12 * d + a.many d) pr) 133 (12 * d + a.many d) sg) 134 (12 * d + a.many d) st) 135 (12 * d + a.many d) o
section
variable {d kd pr sg st o : Int}
theorem nw_q {q : Nat} (h : q < 130 ∨ 135 < q) : nwA a d kd pr sg st o q = a q := by
  unfold nwA; rw [hset_ne (by omega), hset_ne (by omega), hset_ne (by omega), hset_ne (by omega), hset_ne (by omega), hset_ne (by omega)]
theorem nw_many (j : Int) : Ab.many (nwA a d kd pr sg st o) j = if j = d then a.many d + 1 else a.many j := by
  unfold nwA; show hset (hset (hset (hset (hset (hset a 130 d (a.many d + 1)) 131 (12 * d + a.many d) kd) 132 (12 * d + a.many d) pr) 133 (12 * d + a.many d) sg) 134 (12 * d + a.many d) st) 135 (12 * d + a.many d) o 130 j = _
  rw [hset_ne (by omega), hset_ne (by omega), hset_ne (by omega), hset_ne (by omega), hset_ne (by omega)]; exact hs_if
theorem nw_kind (j : Int) : Ab.kind (nwA a d kd pr sg st o) j = if j = 12 * d + a.many d then kd else a.kind j := by
  unfold nwA; show hset (hset (hset (hset (hset (hset a 130 d (a.many d + 1)) 131 (12 * d + a.many d) kd) 132 (12 * d + a.many d) pr) 133 (12 * d + a.many d) sg) 134 (12 * d + a.many d) st) 135 (12 * d + a.many d) o 131 j = _
  rw [hset_ne (by omega), hset_ne (by omega), hset_ne (by omega), hset_ne (by omega), hs_if, hset_ne (by omega)]; rfl
theorem nw_par (j : Int) : Ab.par (nwA a d kd pr sg st o) j = if j = 12 * d + a.many d then pr else a.par j := by
  unfold nwA; show hset (hset (hset (hset (hset (hset a 130 d (a.many d + 1)) 131 (12 * d + a.many d) kd) 132 (12 * d + a.many d) pr) 133 (12 * d + a.many d) sg) 134 (12 * d + a.many d) st) 135 (12 * d + a.many d) o 132 j = _
  rw [hset_ne (by omega), hset_ne (by omega), hset_ne (by omega), hs_if, hset_ne (by omega), hset_ne (by omega)]; rfl
theorem nw_sign (j : Int) : Ab.sign (nwA a d kd pr sg st o) j = if j = 12 * d + a.many d then sg else a.sign j := by
  unfold nwA; show hset (hset (hset (hset (hset (hset a 130 d (a.many d + 1)) 131 (12 * d + a.many d) kd) 132 (12 * d + a.many d) pr) 133 (12 * d + a.many d) sg) 134 (12 * d + a.many d) st) 135 (12 * d + a.many d) o 133 j = _
  rw [hset_ne (by omega), hset_ne (by omega), hs_if, hset_ne (by omega), hset_ne (by omega), hset_ne (by omega)]; rfl
theorem nw_set (j : Int) : Ab.set (nwA a d kd pr sg st o) j = if j = 12 * d + a.many d then st else a.set j := by
  unfold nwA; show hset (hset (hset (hset (hset (hset a 130 d (a.many d + 1)) 131 (12 * d + a.many d) kd) 132 (12 * d + a.many d) pr) 133 (12 * d + a.many d) sg) 134 (12 * d + a.many d) st) 135 (12 * d + a.many d) o 134 j = _
  rw [hset_ne (by omega), hs_if, hset_ne (by omega), hset_ne (by omega), hset_ne (by omega), hset_ne (by omega)]; rfl
theorem nw_order (j : Int) : Ab.order (nwA a d kd pr sg st o) j = if j = 12 * d + a.many d then o else a.order j := by
  unfold nwA; show hset (hset (hset (hset (hset (hset a 130 d (a.many d + 1)) 131 (12 * d + a.many d) kd) 132 (12 * d + a.many d) pr) 133 (12 * d + a.many d) sg) 134 (12 * d + a.many d) st) 135 (12 * d + a.many d) o 135 j = _
  rw [hs_if, hset_ne (by omega), hset_ne (by omega), hset_ne (by omega), hset_ne (by omega), hset_ne (by omega)]; rfl
/-- b has a's members and one more -/
def nwB (a b : Ab) (d kd pr sg st o : Int) : Prop := (∀ j : Int, b.many j = if j = d then a.many d + 1 else a.many j) ∧ (∀ j : Int, b.kind j = if j = 12 * d + a.many d then kd else a.kind j) ∧ (∀ j : Int, b.par j = if j = 12 * d + a.many d then pr else a.par j) ∧ (∀ j : Int, b.sign j = if j = 12 * d + a.many d then sg else a.sign j) ∧ (∀ j : Int, b.set j = if j = 12 * d + a.many d then st else a.set j) ∧ (∀ j : Int, b.order j = if j = 12 * d + a.many d then o else a.order j) ∧ (∀ q : Nat, q = 136 ∨ (141 ≤ q ∧ q ≤ 144) → b q = a q) ∧ b.moves = a.moves
/-- it is one that may be -/
def nwC (a : Ab) (d kd pr sg st o : Int) : Prop := inD d ∧ a.many d < 12 ∧ ((kd = 0 ∧ 0 ≤ pr ∧ pr < a.many d ∧ isP a d pr ∧ -1 ≤ sg ∧ sg ≤ 1) ∨ (kd = 1 ∧ 1 ≤ st ∧ st ≤ 4095 ∧ ∀ k : Int, 0 ≤ k → k < 12 → bitP st k → k < a.many d ∧ isP a d k) ∨ (kd = 2 ∧ 0 ≤ o ∧ o ≤ 100))
theorem nw_d (N : nwB a b d kd pr sg st o) {d' : Int} (h : d' ≠ d) : b.many d' = a.many d' := by rw [N.1, if_neg h]
theorem nw_s (N : nwB a b d kd pr sg st o) : b.many d = a.many d + 1 := by rw [N.1, if_pos rfl]
/-- a place of another member -/
theorem nw_ne (W : WFA a) (hd : inD d) (hm : a.many d < 12) {d' m : Int} (hd' : inD d') (m0 : 0 ≤ m) (m1 : m < 12) (h : ¬ (d' = d ∧ m = a.many d)) : ¬ 12 * d' + m = 12 * d + a.many d := by
  have := many_b W hd
  intro g
  have : d' = d := by omega
  exact h ⟨this, by omega⟩
theorem nw_t (N : nwB a b d kd pr sg st o) {d' m : Int} (h : ¬ (d' = d ∧ m = a.many d)) : thr b d' m ↔ thr a d' m := by
  unfold thr
  rw [N.1]
  by_cases g : d' = d
  · rw [if_pos g]
    subst g
    constructor
    · rintro ⟨q1, q2⟩; exact ⟨q1, by have : ¬ m = a.many d' := fun z => h ⟨rfl, z⟩; omega⟩
    · rintro ⟨q1, q2⟩; exact ⟨q1, by omega⟩
  · rw [if_neg g]
theorem nw_p (W : WFA a) (hd : inD d) (hm : a.many d < 12) (N : nwB a b d kd pr sg st o) {d' m : Int} (hd' : inD d') (m0 : 0 ≤ m) (m1 : m < 12) (h : ¬ (d' = d ∧ m = a.many d)) : isP b d' m ↔ isP a d' m := by
  unfold isP
  rw [N.2.1, if_neg (nw_ne W hd hm hd' m0 m1 h)]
theorem nw_lt (W : WFA a) (hd : inD d) (hm : a.many d < 12) (N : nwB a b d kd pr sg st o) {d' m : Int} (hd' : inD d') (h : thr b d' m) : 0 ≤ m ∧ m < 12 := by
  have h1 := h.1
  have h2 := h.2
  have mb := many_b W hd'
  rw [N.1] at h2
  by_cases g : d' = d
  · rw [if_pos g] at h2; omega
  · rw [if_neg g] at h2; omega
theorem nw_G (W : WFA a) (C : nwC a d kd pr sg st o) (hk : kd ≠ 2) (N : nwB a b d kd pr sg st o) : grw a b := by
  obtain ⟨hd, hm, _⟩ := C
  intro d' hd'
  refine ⟨?_, fun k hk => ?_, fun k h1 h2 => ?_⟩
  · rw [N.1]
    by_cases g : d' = d
    · rw [if_pos g, g]; omega
    · rw [if_neg g]; exact Int.le_refl _
  · have k12 := thr12 W hd' hk
    rw [N.2.1, if_neg (nw_ne W hd hm hd' k12.1 k12.2 (fun g => by have := hk.2; rw [g.1, g.2] at this; omega))]
  · by_cases g : d' = d ∧ k = a.many d
    · rw [N.2.1, g.1, g.2, if_pos rfl] at h2
      exact absurd h2 hk
    · exact (nw_t N g).mp h1
theorem nw_W (W : WFA a) (C : nwC a d kd pr sg st o) (N : nwB a b d kd pr sg st o) : ∀ k : Nat, k ≤ 7 → wfa b k := by
  obtain ⟨hd, hm, hc⟩ := C
  have mb := many_b W hd
  have hd' := inD_b hd
  have h136 : b.hid = a.hid := N.2.2.2.2.2.2.1 136 (by omega)
  have h141 : b.vd = a.vd := N.2.2.2.2.2.2.1 141 (by omega)
  have h142 : b.vm = a.vm := N.2.2.2.2.2.2.1 142 (by omega)
  have h143 : b.vp = a.vp := N.2.2.2.2.2.2.1 143 (by omega)
  have h144 : b.vt = a.vt := N.2.2.2.2.2.2.1 144 (by omega)
  have hmv := N.2.2.2.2.2.2.2
  have w1 : ∀ d : Int, inD d → a.kind (12 * d) = 0 ∧ a.hid (12 * d) = 0 ∧ a.par (12 * d) = -1 := W 1
  -- a PLAIN member of a is one of b
  have up : ∀ {d' m : Int}, inD d' → thr a d' m → isP a d' m → thr b d' m ∧ isP b d' m := fun {d' m} hd' ht hp => by
    have k12 := thr12 W hd' ht
    have g : ¬ (d' = d ∧ m = a.many d) := fun g => by have := ht.2; rw [g.1, g.2] at this; omega
    exact ⟨(nw_t N g).mpr ht, (nw_p W hd hm N hd' k12.1 k12.2 g).mpr hp⟩
  intro k hk
  match k, hk with
  | 0, _ =>
    intro d' hd''
    have := many_b W hd''
    rw [N.1]
    by_cases g : d' = d
    · rw [if_pos g]; omega
    · rw [if_neg g]; exact this
  | 1, _ =>
    intro d' hd''
    have z := inD_b hd''
    have ne : ¬ 12 * d' = 12 * d + a.many d := by omega
    rw [N.2.1, N.2.2.1, if_neg ne, if_neg ne, h136]
    exact w1 d' hd''
  | 2, _ =>
    intro d' m hd'' ht
    have k12 := nw_lt W hd hm N hd'' ht
    by_cases g : d' = d ∧ m = a.many d
    · rw [N.2.1, g.1, g.2, if_pos rfl]
      rcases hc with c | c | c
      · exact Or.inl c.1
      · exact Or.inr (Or.inl c.1)
      · exact Or.inr (Or.inr c.1)
    · rw [N.2.1, if_neg (nw_ne W hd hm hd'' k12.1 k12.2 g)]
      exact (show ∀ d m : Int, inD d → thr a d m → a.kind (12 * d + m) = 0 ∨ a.kind (12 * d + m) = 1 ∨ a.kind (12 * d + m) = 2 from W 2) d' m hd'' ((nw_t N g).mp ht)
  | 3, _ =>
    intro d' m hd'' ht hp m0
    have k12 := nw_lt W hd hm N hd'' ht
    by_cases g : d' = d ∧ m = a.many d
    · obtain ⟨rfl, rfl⟩ := g
      have hp' : b.kind (12 * d' + a.many d') = 0 := hp
      rw [N.2.1, if_pos rfl] at hp'
      rw [N.2.2.1, N.2.2.2.1, if_pos rfl, if_pos rfl]
      rcases hc with c | c | c
      · exact ⟨c.2.1, c.2.2.1, (up hd ⟨c.2.1, c.2.2.1⟩ c.2.2.2.1).2, c.2.2.2.2⟩
      · omega
      · omega
    · have ne := nw_ne W hd hm hd'' k12.1 k12.2 g
      have ht' := (nw_t N g).mp ht
      have g3 := (show ∀ d m : Int, inD d → thr a d m → isP a d m → 0 < m → 0 ≤ a.par (12 * d + m) ∧ a.par (12 * d + m) < m ∧ isP a d (a.par (12 * d + m)) ∧ -1 ≤ a.sign (12 * d + m) ∧ a.sign (12 * d + m) ≤ 1 from W 3) d' m hd'' ht' ((nw_p W hd hm N hd'' k12.1 k12.2 g).mp hp) m0
      rw [N.2.2.1, N.2.2.2.1, if_neg ne, if_neg ne]
      exact ⟨g3.1, g3.2.1, (up hd'' ⟨g3.1, by have := ht'.2; omega⟩ g3.2.2.1).2, g3.2.2.2⟩
  | 4, _ =>
    intro d' m hd'' ht hk1
    have k12 := nw_lt W hd hm N hd'' ht
    by_cases g : d' = d ∧ m = a.many d
    · obtain ⟨rfl, rfl⟩ := g
      rw [N.2.1, if_pos rfl] at hk1
      rw [N.2.2.2.2.1, if_pos rfl]
      rcases hc with c | c | c
      · omega
      · refine ⟨c.2.1, c.2.2.1, fun k q0 q1 hb => ?_⟩
        have := c.2.2.2 k q0 q1 hb
        exact ⟨this.1, (up hd ⟨q0, this.1⟩ this.2).2⟩
      · omega
    · have ne := nw_ne W hd hm hd'' k12.1 k12.2 g
      have ht' := (nw_t N g).mp ht
      rw [N.2.1, if_neg ne] at hk1
      have g4 := (show ∀ d m : Int, inD d → thr a d m → a.kind (12 * d + m) = 1 → 1 ≤ a.set (12 * d + m) ∧ a.set (12 * d + m) ≤ 4095 ∧ ∀ k : Int, 0 ≤ k → k < 12 → bitP (a.set (12 * d + m)) k → k < m ∧ isP a d k from W 4) d' m hd'' ht' hk1
      rw [N.2.2.2.2.1, if_neg ne]
      refine ⟨g4.1, g4.2.1, fun k q0 q1 hb => ?_⟩
      have := g4.2.2 k q0 q1 hb
      exact ⟨this.1, (up hd'' ⟨q0, by have := ht'.2; omega⟩ this.2).2⟩
  | 5, _ =>
    intro d' m hd'' ht hk2
    have k12 := nw_lt W hd hm N hd'' ht
    by_cases g : d' = d ∧ m = a.many d
    · obtain ⟨rfl, rfl⟩ := g
      rw [N.2.1, if_pos rfl] at hk2
      rw [N.2.2.2.2.2.1, if_pos rfl]
      rcases hc with c | c | c
      · omega
      · omega
      · exact c.2
    · have ne := nw_ne W hd hm hd'' k12.1 k12.2 g
      have ht' := (nw_t N g).mp ht
      rw [N.2.1, if_neg ne] at hk2
      rw [N.2.2.2.2.2.1, if_neg ne]
      exact (show ∀ d m : Int, inD d → thr a d m → a.kind (12 * d + m) = 2 → 0 ≤ a.order (12 * d + m) ∧ a.order (12 * d + m) ≤ 100 from W 5) d' m hd'' ht' hk2
  | 6, _ =>
    intro d' m hd'' m0 m1
    have g6 := (show ∀ d m : Int, inD d → 0 ≤ m → m < 12 → (a.hid (12 * d + m) = 0 ∨ a.hid (12 * d + m) = 1) ∧ (¬ (thr a d m ∧ isP a d m) → a.hid (12 * d + m) = 0) ∧ (a.many d ≤ m → a.kind (12 * d + m) = 0) from W 6) d' m hd'' m0 m1
    rw [h136]
    by_cases g : d' = d ∧ m = a.many d
    · obtain ⟨rfl, rfl⟩ := g
      refine ⟨g6.1, fun _ => g6.2.1 (fun q => by have := q.1.2; omega), fun q => ?_⟩
      rw [nw_s N] at q; omega
    · have ne := nw_ne W hd hm hd'' m0 m1 g
      refine ⟨g6.1, fun q => g6.2.1 (fun z => q ⟨(nw_t N g).mpr z.1, (nw_p W hd hm N hd'' m0 m1 g).mpr z.2⟩), fun q => ?_⟩
      rw [N.2.1, if_neg ne]
      refine g6.2.2 ?_
      rw [N.1] at q
      by_cases z : d' = d
      · rw [if_pos z] at q; rw [z]; omega
      · rw [if_neg z] at q; exact q
  | 7, _ =>
    have h7 : 0 ≤ a.moves ∧ a.moves ≤ 10 ∧ ∀ k : Int, 0 ≤ k → k < a.moves → (a.vd k = 1 ∨ a.vd k = 2) ∧ thr a (a.vd k) (a.vm k) ∧ isP a (a.vd k) (a.vm k) ∧ 0 ≤ a.vp k ∧ a.vp k < a.vm k ∧ isP a (a.vd k) (a.vp k) ∧ thr a 0 (a.vt k) ∧ isP a 0 (a.vt k) := W 7
    simp only [wfa, hmv, h141, h142, h143, h144]
    refine ⟨h7.1, h7.2.1, fun k q0 q1 => ?_⟩
    obtain ⟨g1, g2, g3, g4, g5, g6, g7, g8⟩ := h7.2.2 k q0 q1
    have hv : inD (a.vd k) := by unfold inD; omega
    have u1 := up hv g2 g3
    have u2 := up hv (m := a.vp k) ⟨g4, by have := g2.2; omega⟩ g6
    have u3 := up iD0 g7 g8
    exact ⟨g1, u1.1, u1.2, g4, g5, u2.2, u3.1, u3.2⟩
theorem nw_sTm (W : WFA a) (C : nwC a d kd pr sg st o) (h : kd ≠ 0 ∨ d ≠ 0) (N : nwB a b d kd pr sg st o) : sTm a b := by
  obtain ⟨hd, hm, _⟩ := C
  have mb := many_b W iD0
  have hd' := inD_b hd
  have mbd := many_b W hd
  refine ⟨?_, ?_, fun k k0 k1 => ?_, fun k k0 k1 hp => ?_⟩
  · rw [N.1]
    by_cases g : (0 : Int) = d
    · rw [if_pos g, ← g]; omega
    · rw [if_neg g]; exact Int.le_refl _
  · rw [N.1]
    by_cases g : (0 : Int) = d
    · rw [if_pos g]; omega
    · rw [if_neg g]; exact mb.2
  · have ne := nw_ne W hd hm iD0 k0 (by omega) (fun g => by have := g.2; rw [← g.1] at this; omega)
    rw [N.2.1, N.2.2.1, if_neg ne, if_neg (by rw [show k = 12 * 0 + k by omega]; exact ne)]
    exact ⟨rfl, rfl⟩
  · rw [N.1] at k1
    by_cases g : (0 : Int) = d
    · rw [if_pos g, ← g] at k1
      have ek : k = a.many 0 := by omega
      have hp' : b.kind (12 * 0 + k) = 0 := hp
      rw [N.2.1, if_pos (by rw [← g, ek])] at hp'
      rcases h with h | h
      · exact h hp'
      · exact h g.symm
    · rw [if_neg g] at k1; omega
end
end
