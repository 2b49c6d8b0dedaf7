def ins (row : Int → Int) (e m : Int) : Int → Int := fun i => if i < e then row i else if i = e then m else row (i - 1)
theorem run_bel {a a' : Ab} (W : WFA a) (W' : WT a') {p m : Int} (G : grown a a' p m) {row : Int → Int} {c : Int} (C : Chn a row c) {i0 : Int} (h0 : 0 ≤ i0) (hp : row i0 = p) : ∀ (n : Nat), i0 + n < c → (∀ j : Int, i0 < j → j ≤ i0 + n → dep a 0 p < dep a 0 (row j)) → bel a p (row (i0 + n)) := by
  have c2 : ∀ i : Int, 0 ≤ i → i < c → thr a 0 (row i) ∧ isP a 0 (row i) := C 2
  have c3 : ∀ i : Int, 0 ≤ i → i + 1 < c → nxt a (row i) = row (i + 1) := C 3
  intro n
  induction n with
  | zero => intro _ _; simp only [Int.natCast_zero, Int.add_zero]; rw [hp]; exact bel_p
  | succ n ih =>
    intro hc hd
    have hb := ih (by omega) (fun j j0 j1 => hd j j0 (by omega))
    have hk := c2 (i0 + n) (by omega) (by omega)
    have hn := c3 (i0 + n) (by omega) (by omega)
    have hdn := hd (i0 + n + 1) (by omega) (by omega)
    rw [show i0 + ((n + 1 : Nat) : Int) = i0 + n + 1 by omega, ← hn]
    rcases nxt_i W W' G hk.1 hk.2 hb with g | g
    · exact g.2.2.2.1
    · rw [← hn, g.1] at hdn
      rcases clb_b W p.toNat p G.2.2.1 G.2.2.2.1 (Nat.le_refl _) with q | q
      · have hk2 := c2 (i0 + n + 1) (by omega) (by omega)
        rw [← hn, g.1, q] at hk2
        have := hk2.1.1
        omega
      · omega
theorem chn_exit {a a' : Ab} (W : WFA a) (W' : WT a') {p m : Int} (G : grown a a' p m) {row : Int → Int} {c : Int} (C : Chn a row c) {i0 e : Int} (h0 : 0 ≤ i0) (hp : row i0 = p) (he : i0 < e) (hec : e ≤ c) (hr : ∀ j : Int, i0 < j → j < e → dep a 0 p < dep a 0 (row j)) (hx : e < c → dep a 0 (row e) ≤ dep a 0 p) : nxt a' (row (e - 1)) = m ∧ ((e < c ∧ clb a p = row e) ∨ (e = c ∧ clb a p = -1)) := by
  have c2 : ∀ i : Int, 0 ≤ i → i < c → thr a 0 (row i) ∧ isP a 0 (row i) := C 2
  have c3 : ∀ i : Int, 0 ≤ i → i + 1 < c → nxt a (row i) = row (i + 1) := C 3
  have c4 : nxt a (row (c - 1)) = -1 := C 4
  have hb := run_bel W W' G C h0 hp (e - 1 - i0).toNat (by omega) (fun j j0 j1 => hr j j0 (by omega))
  rw [show i0 + ((e - 1 - i0).toNat : Int) = e - 1 by omega] at hb
  have hk := c2 (e - 1) (by omega) (by omega)
  by_cases h : e < c
  · have hn := c3 (e - 1) (by omega) (by omega)
    rw [show e - 1 + 1 = e by omega] at hn
    rcases nxt_i W W' G hk.1 hk.2 hb with g | g
    · have h2 := hx h
      have h3 := g.2.2.2.2
      rw [hn] at h3
      omega
    · exact ⟨g.2, Or.inl ⟨h, by rw [← g.1, hn]⟩⟩
  · have hn : nxt a (row (e - 1)) = -1 := by rw [show e = c by omega]; exact c4
    rcases nxt_i W W' G hk.1 hk.2 hb with g | g
    · have h3 := g.2.1.1
      rw [hn] at h3
      omega
    · exact ⟨g.2, Or.inr ⟨by omega, by rw [← g.1, hn]⟩⟩
theorem chn_same {a a' : Ab} (W : WFA a) (W' : WT a') {p m : Int} (G : grown a a' p m) {row : Int → Int} {c : Int} (C : Chn a row c) {i0 e : Int} (h0 : 0 ≤ i0) (hp : row i0 = p) (he : i0 < e) (hec : e ≤ c) (hr : ∀ j : Int, i0 < j → j < e → dep a 0 p < dep a 0 (row j)) (hx : e < c → dep a 0 (row e) ≤ dep a 0 p) : ∀ i : Int, 0 ≤ i → i < c → i ≠ e - 1 → nxt a' (row i) = nxt a (row i) := by
  have c2 : ∀ i : Int, 0 ≤ i → i < c → thr a 0 (row i) ∧ isP a 0 (row i) := C 2
  have c3 : ∀ i : Int, 0 ≤ i → i + 1 < c → nxt a (row i) = row (i + 1) := C 3
  have c4 : nxt a (row (c - 1)) = -1 := C 4
  have c6 : ∀ i j : Int, 0 ≤ i → i < c → 0 ≤ j → j < c → row i = row j → i = j := C 6
  have hE := chn_exit W W' G C h0 hp he hec hr hx
  intro i i0' i1 hne
  have hk := c2 i i0' i1
  by_cases hb : bel a p (row i)
  · rcases nxt_i W W' G hk.1 hk.2 hb with g | g
    · exact g.1
    · exfalso
      by_cases hl : i + 1 < c
      · have hn := c3 i i0' hl
        have hk2 := c2 (i + 1) (by omega) hl
        rcases hE.2 with q | q
        · have := c6 (i + 1) e (by omega) hl (by omega) q.1 (by rw [← hn, g.1, q.2])
          omega
        · rw [← hn, g.1, q.2] at hk2
          have := hk2.1.1
          omega
      · have hn : nxt a (row i) = -1 := by rw [show i = c - 1 by omega]; exact c4
        rcases hE.2 with q | q
        · have hk2 := c2 e (by omega) q.1
          rw [← q.2, ← g.1, hn] at hk2
          have := hk2.1.1
          omega
        · omega
  · exact nxt_n W W' G hk.1 hk.2 hb
theorem chn_ins {a a' : Ab} (W : WFA a) (W' : WT a') {p m : Int} (G : grown a a' p m) {row : Int → Int} {c : Int} (C : Chn a row c) {i0 e : Int} (h0 : 0 ≤ i0) (hp : row i0 = p) (he : i0 < e) (hec : e ≤ c) (hr : ∀ j : Int, i0 < j → j < e → dep a 0 p < dep a 0 (row j)) (hx : e < c → dep a 0 (row e) ≤ dep a 0 p) : Chn a' (ins row e m) (c + 1) := by
  have c0 : 0 < c ∧ c ≤ 12 := C 0
  have c1 : row 0 = 0 := C 1
  have c2 : ∀ i : Int, 0 ≤ i → i < c → thr a 0 (row i) ∧ isP a 0 (row i) := C 2
  have c3 : ∀ i : Int, 0 ≤ i → i + 1 < c → nxt a (row i) = row (i + 1) := C 3
  have c4 : nxt a (row (c - 1)) = -1 := C 4
  have c5 : ∀ m : Int, thr a 0 m → isP a 0 m → ∃ i : Int, 0 ≤ i ∧ i < c ∧ row i = m := C 5
  have c6 : ∀ i j : Int, 0 ≤ i → i < c → 0 ≤ j → j < c → row i = row j → i = j := C 6
  have c7 : c ≤ a.many 0 := C 7
  obtain ⟨g1, g2, g3, g4, g5, g6, g7⟩ := id G
  have hE := chn_exit W W' G C h0 hp he hec hr hx
  have hS := chn_same W W' G C h0 hp he hec hr hx
  have hM := nxt_m W W' G
  have hw := W'.2.1
  have lo : ∀ i, i < e → ins row e m i = row i := fun i h => by unfold ins; rw [if_pos h]
  have at_ : ins row e m e = m := by unfold ins; rw [if_neg (by omega), if_pos rfl]
  have hi : ∀ i, e < i → ins row e m i = row (i - 1) := fun i h => by unfold ins; rw [if_neg (by omega), if_neg (by omega)]
  have old : ∀ k, thr a 0 k → isP a 0 k → thr a' 0 k ∧ isP a' 0 k := fun k ht hp => ⟨⟨ht.1, by have := ht.2; omega⟩, by unfold isP; rw [(g7 k ht.1 (by have := ht.2; omega)).1]; exact hp⟩
  intro k
  match k with
  | 0 => exact (⟨by omega, by omega⟩ : 0 < c + 1 ∧ c + 1 ≤ 12)
  | 1 => show ins row e m 0 = 0; rw [lo 0 (by omega)]; exact c1
  | 2 =>
    intro i j0 j1
    rcases Int.lt_trichotomy i e with h | h | h
    · rw [lo i h]; exact old _ (c2 i j0 (by omega)).1 (c2 i j0 (by omega)).2
    · subst h; rw [at_]; exact ⟨⟨by omega, by omega⟩, g5⟩
    · rw [hi i h]; exact old _ (c2 (i - 1) (by omega) (by omega)).1 (c2 (i - 1) (by omega) (by omega)).2
  | 3 =>
    intro i j0 j1
    by_cases h1 : i + 1 < e
    · rw [lo i (by omega), lo (i + 1) h1, hS i j0 (by omega) (by omega)]; exact c3 i j0 (by omega)
    · by_cases h2 : i + 1 = e
      · rw [lo i (by omega), h2, at_, show i = e - 1 by omega]; exact hE.1
      · by_cases h3 : i = e
        · subst h3
          rw [at_, hi (i + 1) (by omega), hM, show i + 1 - 1 = i by omega]
          rcases hE.2 with q | q
          · exact q.2
          · omega
        · rw [hi i (by omega), hi (i + 1) (by omega), hS (i - 1) (by omega) (by omega) (by omega), c3 (i - 1) (by omega) (by omega)]
          rw [show i - 1 + 1 = i + 1 - 1 by omega]
  | 4 =>
    show nxt a' (ins row e m (c + 1 - 1)) = -1
    rw [show c + 1 - 1 = c by omega]
    by_cases h : e = c
    · subst h
      rw [at_, hM]
      rcases hE.2 with q | q
      · omega
      · exact q.2
    · rw [hi c (by omega), hS (c - 1) (by omega) (by omega) (by omega)]; exact c4
  | 5 =>
    intro k ht hpk
    by_cases h : k = m
    · exact ⟨e, by omega, by omega, by rw [at_, h]⟩
    · have ht1 := ht.1
      have ht2 := ht.2
      obtain ⟨i, j0, j1, j2⟩ := c5 k ⟨ht1, by omega⟩ (by unfold isP; rw [← (g7 k ht1 (by omega)).1]; exact hpk)
      by_cases hl : i < e
      · exact ⟨i, j0, by omega, by rw [lo i hl]; exact j2⟩
      · exact ⟨i + 1, by omega, by omega, by rw [hi (i + 1) (by omega), show i + 1 - 1 = i by omega]; exact j2⟩
  | 6 =>
    intro i j i0 i1 j0 j1 hij
    have lt : ∀ i : Int, 0 ≤ i → i < c → row i ≠ m := fun i h1 h2 => by have := (c2 i h1 h2).1.2; omega
    rcases Int.lt_trichotomy i e with h | h | h <;> rcases Int.lt_trichotomy j e with g | g | g
    · rw [lo i h, lo j g] at hij; exact c6 i j i0 (by omega) j0 (by omega) hij
    · subst g; rw [lo i h, at_] at hij; exact absurd hij (lt i i0 (by omega))
    · rw [lo i h, hi j g] at hij; have := c6 i (j - 1) i0 (by omega) (by omega) (by omega) hij; omega
    · subst h; rw [at_, lo j g] at hij; exact absurd hij.symm (lt j j0 (by omega))
    · omega
    · subst h; rw [at_, hi j g] at hij; exact absurd hij.symm (lt (j - 1) (by omega) (by omega))
    · rw [hi i h, lo j g] at hij; have := c6 (i - 1) j (by omega) (by omega) j0 (by omega) hij; omega
    · subst g; rw [hi i h, at_] at hij; exact absurd hij (lt (i - 1) (by omega) (by omega))
    · rw [hi i h, hi j g] at hij; have := c6 (i - 1) (j - 1) (by omega) (by omega) (by omega) (by omega) hij; omega
  | 7 => show c + 1 ≤ a'.many 0; omega
  | _ + 8 => trivial
theorem Chn_ext {a : Ab} {r s : Int → Int} {c : Int} (h : ∀ i : Int, 0 ≤ i → i < c → s i = r i) (C : Chn a r c) : Chn a s c := by
  have c0 : 0 < c ∧ c ≤ 12 := C 0
  have c1 : r 0 = 0 := C 1
  have c2 : ∀ i : Int, 0 ≤ i → i < c → thr a 0 (r i) ∧ isP a 0 (r i) := C 2
  have c3 : ∀ i : Int, 0 ≤ i → i + 1 < c → nxt a (r i) = r (i + 1) := C 3
  have c4 : nxt a (r (c - 1)) = -1 := C 4
  have c5 : ∀ m : Int, thr a 0 m → isP a 0 m → ∃ i : Int, 0 ≤ i ∧ i < c ∧ r i = m := C 5
  have c6 : ∀ i j : Int, 0 ≤ i → i < c → 0 ≤ j → j < c → r i = r j → i = j := C 6
  intro k
  match k with
  | 0 => exact c0
  | 1 => show s 0 = 0; rw [h 0 (by omega) (by omega)]; exact c1
  | 2 => intro i i0 i1; rw [h i i0 i1]; exact c2 i i0 i1
  | 3 => intro i i0 i1; rw [h i i0 (by omega), h (i + 1) (by omega) i1]; exact c3 i i0 i1
  | 4 => show nxt a (s (c - 1)) = -1; rw [h (c - 1) (by omega) (by omega)]; exact c4
  | 5 => intro m ht hp; obtain ⟨i, i0, i1, e⟩ := c5 m ht hp; exact ⟨i, i0, i1, by rw [h i i0 i1]; exact e⟩
  | 6 => intro i j i0 i1 j0 j1 e; rw [h i i0 i1, h j j0 j1] at e; exact c6 i j i0 i1 j0 j1 e
  | 7 => exact C 7
  | _ + 8 => trivial
