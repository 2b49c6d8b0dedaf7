/-! ===== the order of time: where a new member comes ===== -/
theorem aftF_b (a : Ab) (q f : Int) : ∀ k : Nat, aftF a q f k = -1 ∨ (0 < aftF a q f k ∧ aftF a q f k < k ∧ f ≤ aftF a q f k ∧ isP a 0 (aftF a q f k) ∧ a.par (aftF a q f k) = q)
  | 0 => Or.inl rfl
  | k + 1 => by
    have ih := aftF_b a q f k
    unfold aftF
    by_cases h : aftF a q f k = -1 ∧ f ≤ k ∧ 0 < (k : Int) ∧ isP a 0 k ∧ a.par k = q
    · rw [if_pos h]; exact Or.inr ⟨h.2.2.1, by omega, h.2.1, h.2.2.2.1, h.2.2.2.2⟩
    · rw [if_neg h]
      rcases ih with ih | ih
      · exact Or.inl ih
      · exact Or.inr ⟨ih.1, by omega, ih.2.2⟩
/-- of the reference's bounds what the order of time needs -/
def WT (a : Ab) : Prop := 1 ≤ a.many 0 ∧ a.many 0 ≤ 12 ∧ ∀ m : Int, thr a 0 m → isP a 0 m → 0 < m → 0 ≤ a.par m ∧ a.par m < m ∧ isP a 0 (a.par m)
theorem wT {a : Ab} (W : WFA a) : WT a := ⟨(many_b W (Or.inl rfl)).1, (many_b W (Or.inl rfl)).2, fun m ht hp h0 => upw_b W (Or.inl rfl) ht hp h0 0⟩
theorem aft_b {a : Ab} (W : WT a) (q f : Int) : aft a q f = -1 ∨ (thr a 0 (aft a q f) ∧ 0 < aft a q f ∧ f ≤ aft a q f ∧ isP a 0 (aft a q f) ∧ a.par (aft a q f) = q) := by
  have hm := W.1
  rcases aftF_b a q f (a.many 0).toNat with h | h
  · exact Or.inl h
  · refine Or.inr ⟨⟨?_, ?_⟩, h.1, h.2.2⟩ <;> unfold aft <;> omega
/-- a' is a with the member m of time under p -/
def grown (a a' : Ab) (p m : Int) : Prop := m = a.many 0 ∧ a'.many 0 = m + 1 ∧ thr a 0 p ∧ isP a 0 p ∧ isP a' 0 m ∧ a'.par m = p ∧ ∀ k : Int, 0 ≤ k → k < m → a'.kind (12 * 0 + k) = a.kind (12 * 0 + k) ∧ a'.par k = a.par k
theorem aftF_g {a a' : Ab} {p m : Int} (G : grown a a' p m) (q f : Int) : ∀ k : Nat, (k : Int) ≤ m → aftF a' q f k = aftF a q f k
  | 0, _ => rfl
  | k + 1, h => by
    have ih := aftF_g G q f k (by omega)
    have e := G.2.2.2.2.2.2 k (by omega) (by omega)
    unfold aftF
    rw [ih, e.2]
    have e2 : isP a' 0 k = isP a 0 k := by unfold isP; rw [e.1]
    simp only [e2]
theorem aft_g {a a' : Ab} (W : WFA a) {p m : Int} (G : grown a a' p m) (q f : Int) : aft a' q f = if aft a q f = -1 ∧ f ≤ m ∧ q = p then m else aft a q f := by
  have hm := many_b W (Or.inl rfl : inD 0)
  obtain ⟨g1, g2, g3, g4, g5, g6, g7⟩ := G
  have e : (a'.many 0).toNat = (a.many 0).toNat + 1 := by omega
  have e3 : (((a.many 0).toNat : Nat) : Int) = m := by omega
  unfold aft
  rw [e]
  show (if aftF a' q f (a.many 0).toNat = -1 ∧ f ≤ ((a.many 0).toNat : Nat) ∧ 0 < (((a.many 0).toNat : Nat) : Int) ∧ isP a' 0 ((a.many 0).toNat : Nat) ∧ a'.par ((a.many 0).toNat : Nat) = q then (((a.many 0).toNat : Nat) : Int) else aftF a' q f (a.many 0).toNat) = _
  rw [aftF_g ⟨g1, g2, g3, g4, g5, g6, g7⟩ q f _ (by omega), e3, g6]
  by_cases h : aftF a q f (a.many 0).toNat = -1 ∧ f ≤ m ∧ q = p
  · rw [if_pos h, if_pos ⟨h.1, h.2.1, by omega, g5, h.2.2.symm⟩]
  · rw [if_neg h, if_neg (fun g => h ⟨g.1, g.2.1, g.2.2.2.2.symm⟩)]
theorem par_b {a : Ab} (W : WT a) {k : Int} (ht : thr a 0 k) (hp : isP a 0 k) (h0 : 0 < k) : 0 ≤ a.par k ∧ a.par k < k ∧ isP a 0 (a.par k) := by
  exact W.2.2 k ht hp h0
theorem clbF_st {a : Ab} (W : WT a) : ∀ (F G : Nat) (k : Int), thr a 0 k → isP a 0 k → k.toNat ≤ F → k.toNat ≤ G → clbF a F k = clbF a G k := by
  intro F
  induction F with
  | zero =>
    intro G k ht hp hF hG
    have : k ≤ 0 := by omega
    cases G with
    | zero => rfl
    | succ G => simp only [clbF, if_pos this]
  | succ F ih =>
    intro G k ht hp hF hG
    by_cases h0 : k ≤ 0
    · cases G with
      | zero => simp only [clbF, if_pos h0]
      | succ G => simp only [clbF, if_pos h0]
    · cases G with
      | zero => omega
      | succ G =>
        have hb := par_b W ht hp (by omega)
        simp only [clbF, if_neg h0]
        rw [ih G (a.par k) (thr_lt ht hb.1 (by omega)) hb.2.2 (by omega) (by omega)]
theorem clb_0 (a : Ab) : clb a 0 = -1 := rfl
theorem clb_s {a : Ab} (W : WT a) {k : Int} (ht : thr a 0 k) (hp : isP a 0 k) (h0 : 0 < k) : clb a k = if 0 ≤ aft a (a.par k) (k + 1) then aft a (a.par k) (k + 1) else clb a (a.par k) := by
  have hb := par_b W ht hp h0
  unfold clb
  obtain ⟨F, hF⟩ : ∃ F : Nat, k.toNat = F + 1 := ⟨k.toNat - 1, by omega⟩
  rw [hF]
  show (if k ≤ 0 then -1 else if 0 ≤ aft a (a.par k) (k + 1) then aft a (a.par k) (k + 1) else clbF a F (a.par k)) = _
  rw [if_neg (by omega), clbF_st W F (a.par k).toNat (a.par k) (thr_lt ht hb.1 (by omega)) hb.2.2 (by omega) (by omega)]
