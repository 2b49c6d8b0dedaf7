/-- k is p, or below it -/
def belF (a : Ab) (p : Int) : Nat → Int → Prop
  | 0, k => k = p
  | F + 1, k => k = p ∨ (0 < k ∧ belF a p F (a.par k))
def bel (a : Ab) (p k : Int) : Prop := belF a p k.toNat k
theorem belF_st {a : Ab} (W : WFA a) (p : Int) : ∀ (F G : Nat) (k : Int), thr a 0 k → isP a 0 k → k.toNat ≤ F → k.toNat ≤ G → (belF a p F k ↔ belF a p G k) := by
  intro F
  induction F with
  | zero =>
    intro G k ht hp hF hG
    have : ¬ (0 < k) := by omega
    cases G with
    | zero => rfl
    | succ G => simp only [belF, this, false_and, or_false]
  | succ F ih =>
    intro G k ht hp hF hG
    by_cases h0 : 0 < k
    · cases G with
      | zero => omega
      | succ G =>
        have hb := par_b (wT W) ht hp h0
        simp only [belF]
        rw [ih G (a.par k) (thr_lt ht hb.1 (by omega)) hb.2.2 (by omega) (by omega)]
    · cases G with
      | zero => simp only [belF, h0, false_and, or_false]
      | succ G => simp only [belF, h0, false_and, or_false]
theorem bel_s {a : Ab} (W : WFA a) {p k : Int} (ht : thr a 0 k) (hp : isP a 0 k) (h0 : 0 < k) : bel a p k ↔ (k = p ∨ bel a p (a.par k)) := by
  have hb := par_b (wT W) ht hp h0
  unfold bel
  obtain ⟨F, hF⟩ : ∃ F : Nat, k.toNat = F + 1 := ⟨k.toNat - 1, by omega⟩
  rw [hF]
  show (k = p ∨ (0 < k ∧ belF a p F (a.par k))) ↔ _
  rw [belF_st W p F (a.par k).toNat (a.par k) (thr_lt ht hb.1 (by omega)) hb.2.2 (by omega) (by omega)]
  simp only [h0, true_and]
theorem bel_0 {a : Ab} {p : Int} : bel a p 0 ↔ 0 = p := Iff.rfl
theorem bel_p {a : Ab} {p : Int} : bel a p p := by
  unfold bel
  cases p.toNat with
  | zero => rfl
  | succ F => exact Or.inl rfl
theorem dep_t {a : Ab} (W : WFA a) {k : Int} (ht : thr a 0 k) (hp : isP a 0 k) (h0 : 0 < k) : dep a 0 k = dep a 0 (a.par k) + 1 := by
  rw [dep_s W (Or.inl rfl) ht hp h0]
  unfold now
  rw [prn_0 W]
theorem bel_dep {a : Ab} (W : WFA a) {p : Int} : ∀ (F : Nat) (k : Int), thr a 0 k → isP a 0 k → k.toNat ≤ F → bel a p k → p ≤ k ∧ dep a 0 p ≤ dep a 0 k ∧ (k ≠ p → dep a 0 p < dep a 0 k) := by
  intro F
  induction F with
  | zero =>
    intro k ht hp hF hb
    have : k = 0 := by have := ht.1; omega
    subst this
    have : 0 = p := hb
    subst this
    exact ⟨Int.le_refl _, Int.le_refl _, fun h => absurd rfl h⟩
  | succ F ih =>
    intro k ht hp hF hb
    by_cases h0 : 0 < k
    · by_cases e : k = p
      · subst e; exact ⟨Int.le_refl _, Int.le_refl _, fun h => absurd rfl h⟩
      · have hpb := par_b (wT W) ht hp h0
        have h1 := ((bel_s W ht hp h0).mp hb).resolve_left e
        have := ih (a.par k) (thr_lt ht hpb.1 (by omega)) hpb.2.2 (by omega) h1
        rw [dep_t W ht hp h0]
        exact ⟨by omega, by omega, fun _ => by omega⟩
    · have : k = 0 := by have := ht.1; omega
      subst this
      have : 0 = p := hb
      subst this
      exact ⟨Int.le_refl _, Int.le_refl _, fun h => absurd rfl h⟩
theorem clb_b {a : Ab} (W : WFA a) : ∀ (F : Nat) (k : Int), thr a 0 k → isP a 0 k → k.toNat ≤ F → clb a k = -1 ∨ (thr a 0 (clb a k) ∧ isP a 0 (clb a k) ∧ 0 < clb a k ∧ dep a 0 (clb a k) ≤ dep a 0 k) := by
  intro F
  induction F with
  | zero =>
    intro k ht hp hF
    have : k = 0 := by have := ht.1; omega
    subst this; exact Or.inl (clb_0 a)
  | succ F ih =>
    intro k ht hp hF
    by_cases h0 : 0 < k
    · have hpb := par_b (wT W) ht hp h0
      have ih2 := ih (a.par k) (thr_lt ht hpb.1 (by omega)) hpb.2.2 (by omega)
      have hd := dep_t W ht hp h0
      rw [clb_s (wT W) ht hp h0]
      rcases aft_b (wT W) (a.par k) (k + 1) with h | h
      · rw [h, if_neg (by omega)]
        rcases ih2 with g | g
        · exact Or.inl g
        · exact Or.inr ⟨g.1, g.2.1, g.2.2.1, by omega⟩
      · rw [if_pos (by omega)]
        refine Or.inr ⟨h.1, h.2.2.2.1, h.2.1, ?_⟩
        rw [dep_t W h.1 h.2.2.2.1 h.2.1, h.2.2.2.2]
        omega
    · have : k = 0 := by have := ht.1; omega
      subst this; exact Or.inl (clb_0 a)
theorem clb_sg {a a' : Ab} (W : WFA a) (W' : WT a') {p m : Int} (G : grown a a' p m) {k : Int} (ht : thr a 0 k) (hp : isP a 0 k) (h0 : 0 < k) : clb a' k = if 0 ≤ aft a' (a.par k) (k + 1) then aft a' (a.par k) (k + 1) else clb a' (a.par k) := by
  have e := G.2.2.2.2.2.2 k ht.1 (by have := ht.2; have := G.1; omega)
  have ht' : thr a' 0 k := ⟨ht.1, by have := ht.2; have := G.1; have := G.2.1; omega⟩
  have hp' : isP a' 0 k := by unfold isP; rw [e.1]; exact hp
  rw [clb_s W' ht' hp' h0, e.2]
theorem aft_gn {a a' : Ab} (W : WFA a) {p m : Int} (G : grown a a' p m) {q : Int} (f : Int) (h : q ≠ p) : aft a' q f = aft a q f := by
  rw [aft_g W G]; exact if_neg (fun g => h g.2.2)
theorem aft_gy {a a' : Ab} (W : WFA a) {p m : Int} (G : grown a a' p m) {q f : Int} (h : 0 ≤ aft a q f) : aft a' q f = aft a q f := by
  rw [aft_g W G]; exact if_neg (fun g => by omega)
theorem aft_gm {a a' : Ab} (W : WFA a) {p m : Int} (G : grown a a' p m) {f : Int} (h : aft a p f = -1) (hf : f ≤ m) : aft a' p f = m := by
  rw [aft_g W G]; exact if_pos ⟨h, hf, rfl⟩
/-- not below p: climbing is as it was -/
theorem clb_n {a a' : Ab} (W : WFA a) (W' : WT a') {p m : Int} (G : grown a a' p m) : ∀ (F : Nat) (k : Int), thr a 0 k → isP a 0 k → k.toNat ≤ F → (k = p ∨ ¬ bel a p k) → clb a' k = clb a k := by
  intro F
  induction F with
  | zero =>
    intro k ht hp hF hb
    have : k = 0 := by have := ht.1; omega
    subst this; rfl
  | succ F ih =>
    intro k ht hp hF hb
    by_cases h0 : 0 < k
    · have hpb := par_b (wT W) ht hp h0
      have hq : a.par k ≠ p ∧ ¬ bel a p (a.par k) := by
        rcases hb with hb | hb
        · subst hb
          refine ⟨by omega, fun h => ?_⟩
          have := (bel_dep W _ (a.par k) (thr_lt ht hpb.1 (by omega)) hpb.2.2 (Nat.le_refl _) h).1
          omega
        · refine ⟨fun h => hb ((bel_s W ht hp h0).mpr (Or.inr (h ▸ bel_p))), fun h => hb ((bel_s W ht hp h0).mpr (Or.inr h))⟩
      rw [clb_sg W W' G ht hp h0, clb_s (wT W) ht hp h0, aft_gn W G _ hq.1, ih (a.par k) (thr_lt ht hpb.1 (by omega)) hpb.2.2 (by omega) (Or.inr hq.2)]
    · have : k = 0 := by have := ht.1; omega
      subst this; rfl
/-- below p: to one below p as before, or out of it, where m now comes -/
theorem clb_i {a a' : Ab} (W : WFA a) (W' : WT a') {p m : Int} (G : grown a a' p m) : ∀ (F : Nat) (k : Int), thr a 0 k → isP a 0 k → k.toNat ≤ F → bel a p k → k ≠ p → (clb a' k = clb a k ∧ thr a 0 (clb a k) ∧ isP a 0 (clb a k) ∧ bel a p (clb a k) ∧ clb a k ≠ p) ∨ (clb a k = clb a p ∧ clb a' k = m) := by
  intro F
  induction F with
  | zero =>
    intro k ht hp hF hb hn
    have : k = 0 := by have := ht.1; omega
    subst this; exact absurd hb hn
  | succ F ih =>
    intro k ht hp hF hb hn
    by_cases h0 : 0 < k
    · have hpb := par_b (wT W) ht hp h0
      have htq := thr_lt ht hpb.1 (by omega : a.par k ≤ k)
      have hbq := ((bel_s W ht hp h0).mp hb).resolve_left hn
      have hqd := bel_dep W _ (a.par k) htq hpb.2.2 (Nat.le_refl _) hbq
      rw [clb_sg W W' G ht hp h0, clb_s (wT W) ht hp h0]
      rcases aft_b (wT W) (a.par k) (k + 1) with h | h
      · by_cases hqp : a.par k = p
        · have hk := ht.2
          have hm := G.1
          have hk0 := ht.1
          rw [hqp] at h ⊢
          refine Or.inr ⟨by rw [h, if_neg (by omega)], ?_⟩
          rw [aft_gm W G h (by omega), if_pos (by omega)]
        · rw [aft_gn W G _ hqp, h, if_neg (by omega), if_neg (by omega)]
          exact ih (a.par k) htq hpb.2.2 (by omega) hbq hqp
      · have h2 := h.2.1
        rw [aft_gy W G (by omega), if_pos (by omega), if_pos (by omega)]
        refine Or.inl ⟨rfl, h.1, h.2.2.2.1, (bel_s W h.1 h.2.2.2.1 h.2.1).mpr (Or.inr (by rw [h.2.2.2.2]; exact hbq)), ?_⟩
        have := h.2.2.1
        have := ht.1
        have := (bel_dep W _ k ht hp (Nat.le_refl _) hb).1
        omega
    · have : k = 0 := by have := ht.1; omega
      subst this; exact absurd hb hn
