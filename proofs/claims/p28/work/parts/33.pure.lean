/-! ===== plain facts about what it means ===== -/
theorem bestV_b (a : Ab) (d m u : Int) : ∀ k : Nat, -1 ≤ bestV a d m u k ∧ bestV a d m u k < k ∧ (0 ≤ bestV a d m u k → a.vd (bestV a d m u k) = d ∧ a.vm (bestV a d m u k) = m)
  | 0 => ⟨by simp [bestV], by simp [bestV], by simp [bestV]⟩
  | k + 1 => by
    have ih := bestV_b a d m u k
    unfold bestV
    by_cases h : a.vd k = d ∧ a.vm k = m ∧ a.place (a.vt k) ≤ u ∧ (bestV a d m u k < 0 ∨ a.place (a.vt (bestV a d m u k)) ≤ a.place (a.vt k))
    · rw [if_pos h]; exact ⟨by omega, by omega, fun _ => ⟨h.1, h.2.1⟩⟩
    · rw [if_neg h]; exact ⟨ih.1, by omega, ih.2.2⟩
theorem prn_b {a : Ab} (W : WFA a) {d m : Int} (hd : inD d) (ht : thr a d m) (hp : isP a d m) (h0 : 0 < m) (u : Int) : 0 ≤ prn a d m u ∧ prn a d m u < m ∧ isP a d (prn a d m u) := by
  have hb := bestV_b a d m u a.moves.toNat
  have h3 : 0 ≤ a.par (12 * d + m) ∧ a.par (12 * d + m) < m ∧ isP a d (a.par (12 * d + m)) ∧ -1 ≤ a.sign (12 * d + m) ∧ a.sign (12 * d + m) ≤ 1 := W 3 d m hd ht hp h0
  have h7 : 0 ≤ a.moves ∧ a.moves ≤ 10 ∧ ∀ k : Int, 0 ≤ k → k < a.moves → (a.vd k = 1 ∨ a.vd k = 2) ∧ thr a (a.vd k) (a.vm k) ∧ isP a (a.vd k) (a.vm k) ∧ 0 ≤ a.vp k ∧ a.vp k < a.vm k ∧ isP a (a.vd k) (a.vp k) ∧ thr a 0 (a.vt k) ∧ isP a 0 (a.vt k) := W 7
  unfold prn
  by_cases h : bestV a d m u a.moves.toNat < 0
  · rw [if_pos h]; exact ⟨h3.1, h3.2.1, h3.2.2.1⟩
  · rw [if_neg h]
    have h8 := h7.2.2 (bestV a d m u a.moves.toNat) (by omega) (by omega)
    have h9 := hb.2.2 (by omega)
    rw [h9.1, h9.2] at h8
    exact ⟨h8.2.2.2.1, h8.2.2.2.2.1, h8.2.2.2.2.2.1⟩
theorem now_b {a : Ab} (W : WFA a) {d m : Int} (hd : inD d) (ht : thr a d m) (hp : isP a d m) (h0 : 0 < m) : 0 ≤ now a d m ∧ now a d m < m ∧ isP a d (now a d m) := prn_b W hd ht hp h0 99
theorem thr_lt {a : Ab} {d m k : Int} (ht : thr a d m) (h0 : 0 ≤ k) (h : k ≤ m) : thr a d k := ⟨h0, by have := ht.2; omega⟩
theorem upw_b {a : Ab} (W : WFA a) {d m : Int} (hd : inD d) (ht : thr a d m) (hp : isP a d m) (h0 : 0 < m) (u : Int) : 0 ≤ upw a d m u ∧ upw a d m u < m ∧ isP a d (upw a d m u) := by
  unfold upw
  by_cases h : d = 0
  · rw [if_pos h]
    subst h
    have h3 : 0 ≤ a.par (12 * 0 + m) ∧ a.par (12 * 0 + m) < m ∧ isP a 0 (a.par (12 * 0 + m)) ∧ -1 ≤ a.sign (12 * 0 + m) ∧ a.sign (12 * 0 + m) ≤ 1 := W 3 0 m hd ht hp h0
    rw [show (12 : Int) * 0 + m = m by omega] at h3
    exact ⟨h3.1, h3.2.1, h3.2.2.1⟩
  · rw [if_neg h]; exact prn_b W hd ht hp h0 u
theorem depF_st {a : Ab} (W : WFA a) {d : Int} (hd : inD d) : ∀ (F G : Nat) (m : Int), thr a d m → isP a d m → m.toNat ≤ F → m.toNat ≤ G → depF a d F m = depF a d G m := by
  intro F
  induction F with
  | zero =>
    intro G m ht hp hF hG
    have : ¬ (0 < m) := by omega
    cases G with
    | zero => rfl
    | succ G => simp only [depF, if_neg this]
  | succ F ih =>
    intro G m ht hp hF hG
    by_cases h0 : 0 < m
    · cases G with
      | zero => omega
      | succ G =>
        have hb := now_b W hd ht hp h0
        simp only [depF, if_pos h0]
        rw [ih G (now a d m) (thr_lt ht hb.1 (by omega)) hb.2.2 (by omega) (by omega)]
    · cases G with
      | zero => simp only [depF, if_neg h0]
      | succ G => simp only [depF, if_neg h0]
theorem dep_s {a : Ab} (W : WFA a) {d m : Int} (hd : inD d) (ht : thr a d m) (hp : isP a d m) (h0 : 0 < m) : dep a d m = dep a d (now a d m) + 1 := by
  have hb := now_b W hd ht hp h0
  have ht2 := thr_lt ht hb.1 (by omega : now a d m ≤ m)
  unfold dep
  obtain ⟨F, hF⟩ : ∃ F : Nat, m.toNat = F + 1 := ⟨m.toNat - 1, by omega⟩
  rw [hF]
  show (if 0 < m then depF a d F (now a d m) + 1 else 0) = _
  rw [if_pos h0, depF_st W hd F (now a d m).toNat (now a d m) ht2 hb.2.2 (by omega) (by omega)]
theorem dep_0 (a : Ab) (d : Int) : dep a d 0 = 0 := rfl
theorem dep_b {a : Ab} (W : WFA a) {d : Int} (hd : inD d) : ∀ (F : Nat) (m : Int), thr a d m → isP a d m → m.toNat ≤ F → 0 ≤ dep a d m ∧ dep a d m ≤ m := by
  intro F
  induction F with
  | zero =>
    intro m ht hp hF
    have : m = 0 := by have := ht.1; omega
    subst this; rw [dep_0]; omega
  | succ F ih =>
    intro m ht hp hF
    by_cases h0 : 0 < m
    · have hb := now_b W hd ht hp h0
      have := ih (now a d m) (thr_lt ht hb.1 (by omega)) hb.2.2 (by omega)
      rw [dep_s W hd ht hp h0]; omega
    · have : m = 0 := by have := ht.1; omega
      subst this; rw [dep_0]; omega
theorem dep_r {a : Ab} (W : WFA a) {d m : Int} (hd : inD d) (ht : thr a d m) (hp : isP a d m) : 0 ≤ dep a d m ∧ dep a d m ≤ m := dep_b W hd m.toNat m ht hp (Nat.le_refl _)
theorem openF_st {a : Ab} (W : WFA a) {d : Int} (hd : inD d) : ∀ (F G : Nat) (m : Int), thr a d m → isP a d m → m.toNat ≤ F → m.toNat ≤ G → (openF a d F m ↔ openF a d G m) := by
  intro F
  induction F with
  | zero =>
    intro G m ht hp hF hG
    have : ¬ (0 < m) := by omega
    cases G with
    | zero => rfl
    | succ G => simp only [openF, this, false_implies]
  | succ F ih =>
    intro G m ht hp hF hG
    by_cases h0 : 0 < m
    · cases G with
      | zero => omega
      | succ G =>
        have hb := now_b W hd ht hp h0
        simp only [openF]
        rw [ih G (now a d m) (thr_lt ht hb.1 (by omega)) hb.2.2 (by omega) (by omega)]
    · cases G with
      | zero => simp only [openF, h0, false_implies]
      | succ G => simp only [openF, h0, false_implies]
theorem opn_s {a : Ab} (W : WFA a) {d m : Int} (hd : inD d) (ht : thr a d m) (hp : isP a d m) (h0 : 0 < m) : opn a d m ↔ (a.hid (12 * d + m) = 0 ∧ opn a d (now a d m)) := by
  have hb := now_b W hd ht hp h0
  have ht2 := thr_lt ht hb.1 (by omega : now a d m ≤ m)
  unfold opn
  obtain ⟨F, hF⟩ : ∃ F : Nat, m.toNat = F + 1 := ⟨m.toNat - 1, by omega⟩
  rw [hF]
  show (0 < m → _) ↔ _
  rw [openF_st W hd F (now a d m).toNat (now a d m) ht2 hb.2.2 (by omega) (by omega)]
  exact ⟨fun h => h h0, fun h _ => h⟩
theorem opn_0 (a : Ab) (d : Int) : opn a d 0 := trivial
theorem wtF_st {a : Ab} (W : WFA a) {d : Int} (hd : inD d) (top u : Int) (h : 0 ≤ top) : ∀ (F G : Nat) (m : Int), thr a d m → isP a d m → m.toNat ≤ F → m.toNat ≤ G → wtF a d top u F m = wtF a d top u G m := by
  intro F
  induction F with
  | zero =>
    intro G m ht hp hF hG
    have h0 : m = 0 := by have := ht.1; omega
    cases G with
    | zero => rfl
    | succ G =>
      simp only [wtF]
      by_cases h1 : m = top
      · rw [if_pos h1, if_pos h1]
      · rw [if_neg h1, if_neg h1, if_pos (by omega)]
  | succ F ih =>
    intro G m ht hp hF hG
    cases G with
    | zero =>
      simp only [wtF]
      by_cases h1 : m = top
      · rw [if_pos h1, if_pos h1]
      · rw [if_neg h1, if_neg h1, if_pos (by omega)]
    | succ G =>
      simp only [wtF]
      by_cases h1 : m = top
      · rw [if_pos h1, if_pos h1]
      · by_cases h2 : m < top
        · rw [if_neg h1, if_neg h1, if_pos h2, if_pos h2]
        · have hb := upw_b W hd ht hp (by omega) u
          rw [ih G (upw a d m u) (thr_lt ht hb.1 (by omega)) hb.2.2 (by omega) (by omega)]
theorem wt_s {a : Ab} (W : WFA a) {d m top u : Int} (hd : inD d) (ht : thr a d m) (hp : isP a d m) (h : 0 ≤ top) (h0 : top < m) : wt a d m top u = if wt a d (upw a d m u) top u = 2 then 2 else wt a d (upw a d m u) top u * a.sign (12 * d + m) := by
  have hb := upw_b W hd ht hp (by omega : 0 < m) u
  have ht2 := thr_lt ht hb.1 (by omega : upw a d m u ≤ m)
  unfold wt
  obtain ⟨F, hF⟩ : ∃ F : Nat, m.toNat = F + 1 := ⟨m.toNat - 1, by omega⟩
  rw [hF]
  simp only [wtF]
  rw [if_neg (by omega), if_neg (by omega), wtF_st W hd top u h F (upw a d m u).toNat (upw a d m u) ht2 hb.2.2 (by omega) (by omega)]
theorem wt_e (a : Ab) (d m u : Int) : wt a d m m u = 1 := by
  unfold wt
  cases m.toNat with
  | zero => simp [wtF]
  | succ F => simp [wtF]
theorem wt_l {a : Ab} {d m top u : Int} (h : m < top) : wt a d m top u = 2 := by
  unfold wt
  cases m.toNat with
  | zero => simp only [wtF]; rw [if_neg (by omega)]
  | succ F => simp only [wtF]; rw [if_neg (by omega), if_pos h]
/-- a weight is -1, 0, 1, or 2: not below -/
theorem wt_r {a : Ab} (W : WFA a) {d top u : Int} (hd : inD d) (h : 0 ≤ top) : ∀ (F : Nat) (m : Int), thr a d m → isP a d m → m.toNat ≤ F → -1 ≤ wt a d m top u ∧ wt a d m top u ≤ 2 := by
  intro F
  induction F with
  | zero =>
    intro m ht hp hF
    by_cases h1 : m = top
    · subst h1; rw [wt_e]; omega
    · rw [wt_l (by have := ht.1; omega)]; omega
  | succ F ih =>
    intro m ht hp hF
    by_cases h1 : m = top
    · subst h1; rw [wt_e]; omega
    · by_cases h2 : m < top
      · rw [wt_l h2]; omega
      · have hb := upw_b W hd ht hp (by omega : 0 < m) u
        have := ih (upw a d m u) (thr_lt ht hb.1 (by omega)) hb.2.2 (by omega)
        rw [wt_s W hd ht hp h (by omega)]
        by_cases h3 : wt a d (upw a d m u) top u = 2
        · rw [if_pos h3]; omega
        · rw [if_neg h3]
          have h5 : 0 ≤ a.par (12 * d + m) ∧ a.par (12 * d + m) < m ∧ isP a d (a.par (12 * d + m)) ∧ -1 ≤ a.sign (12 * d + m) ∧ a.sign (12 * d + m) ≤ 1 := W 3 d m hd ht hp (by omega)
          have e1 : wt a d (upw a d m u) top u = -1 ∨ wt a d (upw a d m u) top u = 0 ∨ wt a d (upw a d m u) top u = 1 := by omega
          rcases e1 with e1 | e1 | e1 <;> rw [e1] <;> omega
