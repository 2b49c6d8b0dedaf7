/-! the shapes of the cells: kinds (classes 0..10, int[] 12, long[] 13, boolean[] 14, Formula[] 15, int[][] 16), lengths, types of the slots; none at 130..170; Formulas from 171 on, four cells each; int[60] of the law's from 1048576 on -/
def zKinds : List Nat := [10, 7, 0, 5, 12, 12, 12, 12, 12, 12, 12, 12, 14, 15, 12, 12, 12, 14, 16, 12, 12, 12, 12, 12, 12, 12, 12, 12, 12, 12, 12, 12, 0, 5, 12, 12, 12, 12, 12, 12, 12, 12, 14, 15, 12, 12, 12, 14, 16, 12, 12, 12, 12, 12, 12, 12, 12, 12, 12, 12, 12, 12, 0, 5, 12, 12, 12, 12, 12, 12, 12, 12, 14, 15, 12, 12, 12, 14, 16, 12, 12, 12, 12, 12, 12, 12, 12, 12, 12, 12, 12, 12, 9, 12, 12, 4, 12, 12, 12, 12, 12, 1, 12, 12, 12, 12, 12, 12, 3, 12, 12, 13, 8, 13, 13, 13, 6, 12, 13, 13, 13, 12, 12, 12, 13, 2, 12, 12, 12, 12]
def zLens : List Nat := [0, 0, 0, 0, 10, 10, 10, 12, 12, 12, 12, 12, 12, 12, 12, 12, 12, 12, 13, 144, 144, 144, 144, 144, 144, 144, 144, 144, 144, 144, 144, 144, 0, 0, 10, 10, 10, 12, 12, 12, 12, 12, 12, 12, 12, 12, 12, 12, 13, 144, 144, 144, 144, 144, 144, 144, 144, 144, 144, 144, 144, 144, 0, 0, 10, 10, 10, 12, 12, 12, 12, 12, 12, 12, 12, 12, 12, 12, 13, 144, 144, 144, 144, 144, 144, 144, 144, 144, 144, 144, 144, 144, 0, 12, 12, 0, 4, 4, 4, 4, 12, 0, 50, 50, 50, 50, 50, 50, 0, 20, 20, 20, 0, 50, 50, 50, 0, 1728, 1728, 410, 4, 50, 50, 50, 12, 0, 10, 10, 10, 5]
def zFld (k : Nat) : List (Nat × Int) := match k with
  | 0 => [(0, 0), (0, 0), (0, 0), (4, 1), (4, 5), (4, 6), (4, 7), (4, 8), (4, 9), (4, 10), (4, 11), (4, 12), (4, 13), (4, 14), (4, 15), (4, 16)]
  | 1 => [(0, 0), (0, 0), (2, 0), (4, 1), (4, 2), (4, 3), (4, 4), (4, 5), (4, 6)]
  | 2 => [(0, 0), (0, 0), (4, 1), (4, 2), (4, 3)]
  | 3 => [(0, 0), (0, 0), (4, 1), (4, 2), (4, 3)]
  | 4 => [(0, 0), (4, 1), (4, 2), (4, 3), (4, 4), (4, 5)]
  | 5 => [(0, 0), (4, 1), (4, 2), (4, 3)]
  | 6 => [(4, -115), (4, -21), (4, -15), (0, 0), (0, 0), (4, 1), (4, 2), (4, 3), (4, 4), (0, 0), (4, 5), (4, 6), (4, 7), (4, 8)]
  | 7 => [(4, 1), (4, 31), (4, 61), (4, 91), (2, 0), (2, 0)]
  | 8 => [(0, 0), (1, 0), (4, 1), (4, 2), (4, 3)]
  | 9 => [(0, 0), (4, 1), (4, 2)]
  | 10 => [(4, 1), (4, 95), (4, 101), (4, 108), (4, 112), (4, 116), (3, 0)]
  | _ => []
def zTgt (k : Nat) : List (Nat × Nat) := match k with
  | 0 => [(99, 0), (99, 0), (99, 0), (5, 0), (12, 12), (12, 12), (12, 12), (12, 12), (12, 12), (14, 12), (15, 12), (12, 12), (12, 12), (12, 12), (14, 12), (16, 13)]
  | 1 => [(99, 0), (99, 0), (99, 0), (12, 50), (12, 50), (12, 50), (12, 50), (12, 50), (12, 50)]
  | 2 => [(99, 0), (99, 0), (12, 10), (12, 10), (12, 10)]
  | 3 => [(99, 0), (99, 0), (12, 20), (12, 20), (13, 20)]
  | 4 => [(99, 0), (12, 4), (12, 4), (12, 4), (12, 4), (12, 12)]
  | 5 => [(99, 0), (12, 10), (12, 10), (12, 10)]
  | 6 => [(7, 0), (4, 0), (1, 0), (99, 0), (99, 0), (12, 1728), (13, 1728), (13, 410), (13, 4), (99, 0), (12, 50), (12, 50), (12, 50), (13, 12)]
  | 7 => [(0, 0), (0, 0), (0, 0), (9, 0), (99, 0), (99, 0)]
  | 8 => [(99, 0), (99, 0), (13, 50), (13, 50), (13, 50)]
  | 9 => [(99, 0), (12, 12), (12, 12)]
  | 10 => [(7, 0), (4, 0), (1, 0), (3, 0), (8, 0), (6, 0), (99, 0)]
  | _ => []

def sh (p : Nat) : Nat := if p < 130 then zKinds.getD p 99 else if p < 171 then 11 else if 1048576 ≤ p then 12 else if (p - 171) % 4 = 0 then 2 else 12
def ln (p : Nat) : Nat := if p < 130 then zLens.getD p 0 else if p < 171 then 0 else if 1048576 ≤ p then 60 else if (p - 171) % 4 = 0 then 0 else 10
/-- the cell p is there, where n says how many there are: n mod 2^20 with the gap 130..170, n div 2^20 of the law's rows -/
def inn (n p : Nat) : Prop := (p < n % 1048576 ∧ (p < 130 ∨ 171 ≤ p)) ∨ (1048576 ≤ p ∧ p < 1048576 + n / 1048576)
def nle (n m : Nat) : Prop := n % 1048576 ≤ m % 1048576 ∧ n / 1048576 ≤ m / 1048576
theorem nle.refl (n : Nat) : nle n n := ⟨Nat.le_refl _, Nat.le_refl _⟩
theorem nle.trans {a b c : Nat} (h : nle a b) (g : nle b c) : nle a c := ⟨Nat.le_trans h.1 g.1, Nat.le_trans h.2 g.2⟩
theorem inn.mono {n m p : Nat} (h : inn n p) (g : nle n m) : inn m p := by
  unfold inn nle at *
  omega
theorem inn_lt {n p : Nat} (h : inn n p) (hn : n < 1048576) : p < n := by unfold inn at h; omega
theorem inn_of {n p : Nat} (h : p < n) (h1 : p < 130) (hn : n < 1048576) : inn n p := by unfold inn; omega
def Sh (n p k L : Nat) : Prop := inn n p ∧ sh p = k ∧ ln p = L
def nOk (n : Nat) : Prop := ∃ j : Nat, n % 1048576 = 171 + 4 * j
theorem nOk.le {n : Nat} (h : nOk n) : 171 ≤ n % 1048576 := by obtain ⟨j, h⟩ := h; omega
theorem nOk.in {n p : Nat} (h : nOk n) (hp : p < 130) : inn n p := by have := h.le; unfold inn; omega
theorem Sh.of {n p k L : Nat} (hn : nOk n) (h : p < 130) (h1 : sh p = k) (h2 : ln p = L) : Sh n p k L := ⟨hn.in h, h1, h2⟩
theorem Sh.mono {n m p k L : Nat} (h : Sh n p k L) (hm : nle n m) : Sh m p k L := ⟨h.1.mono hm, h.2⟩
def z_okT (p : Nat) : Bool := (List.range (zFld (sh p)).length).all fun j => match (zFld (sh p))[j]?, (zTgt (sh p))[j]? with
  | some (4, o), some (k, L) => decide (0 ≤ (p : Int) + o) && (decide (((p : Int) + o).toNat < 130) && (decide (sh ((p : Int) + o).toNat = k) && decide (ln ((p : Int) + o).toNat = L)))
  | some (4, _), none => false
  | _, _ => true
theorem z_okT_all : (List.range 130).all z_okT = true := by decide +kernel
theorem sh_gap {p : Nat} (h : ¬ p < 130) (h2 : p < 171) : sh p = 11 := by unfold sh; rw [if_neg h, if_pos h2]
theorem sh_big {p : Nat} (h : 1048576 ≤ p) : sh p = 12 ∧ ln p = 60 := by
  unfold sh ln
  rw [if_neg (show ¬ p < 130 by omega), if_neg (show ¬ p < 171 by omega), if_pos h, if_neg (show ¬ p < 130 by omega), if_neg (show ¬ p < 171 by omega), if_pos h]
  exact ⟨rfl, rfl⟩
theorem sh_fm {p : Nat} (h : 171 ≤ p) (h2 : p < 1048576) : sh p = (if (p - 171) % 4 = 0 then 2 else 12) ∧ ln p = (if (p - 171) % 4 = 0 then 0 else 10) := by
  unfold sh ln
  rw [if_neg (show ¬ p < 130 by omega), if_neg (show ¬ p < 171 by omega), if_neg (show ¬ 1048576 ≤ p by omega), if_neg (show ¬ p < 130 by omega), if_neg (show ¬ p < 171 by omega), if_neg (show ¬ 1048576 ≤ p by omega)]
  exact ⟨rfl, rfl⟩
theorem Sh.tgt {n p k L j k' L' P' : Nat} {o : Int} (hn : nOk n) (h : Sh n p k L) (h1 : (zFld k)[j]? = some (4, o)) (h2 : (zTgt k)[j]? = some (k', L')) (hP : (P' : Int) = p + o) : Sh n P' k' L' := by
  obtain ⟨hp, rfl, rfl⟩ := h
  by_cases hl : p < 130
  · have h3 := List.all_eq_true.mp z_okT_all p (List.mem_range.mpr hl)
    unfold z_okT at h3
    have hj : j < (zFld (sh p)).length := (List.getElem?_eq_some_iff.mp h1).1
    have h4 := List.all_eq_true.mp h3 j (List.mem_range.mpr hj)
    rw [h1, h2] at h4
    simp only [Bool.and_eq_true, decide_eq_true_eq] at h4
    have e : ((p : Int) + o).toNat = P' := by omega
    rw [e] at h4
    exact ⟨hn.in h4.2.1, h4.2.2.1, h4.2.2.2⟩
  · by_cases hg : p < 171
    · rw [sh_gap hl hg] at h1
      simp [zFld] at h1
    · by_cases hb : 1048576 ≤ p
      · rw [(sh_big hb).1] at h1
        simp [zFld] at h1
      · have hf := sh_fm (p := p) (by omega) (by omega)
        obtain ⟨i, hi⟩ := hn
        have hpn : p < n % 1048576 := by unfold inn at hp; omega
        by_cases hm2 : (p - 171) % 4 = 0
        · rw [if_pos hm2] at hf
          rw [hf.1] at h1 h2
          have hj : j < 5 := (List.getElem?_eq_some_iff.mp h1).1
          have key : ∀ d : Nat, 1 ≤ d → d ≤ 3 → (P' : Int) = p + d → Sh n P' 12 10 := by
            intro d d1 d3 hd
            have hP2 : P' = p + d := by omega
            subst hP2
            have g := sh_fm (p := p + d) (by omega) (by omega)
            rw [if_neg (by omega), if_neg (by omega)] at g
            exact ⟨by unfold inn; omega, g.1, g.2⟩
          match j, hj with
          | 0, _ => cases h1
          | 1, _ => cases h1
          | 2, _ => cases h1; cases h2; exact key 1 (by omega) (by omega) hP
          | 3, _ => cases h1; cases h2; exact key 2 (by omega) (by omega) hP
          | 4, _ => cases h1; cases h2; exact key 3 (by omega) (by omega) hP
        · rw [if_neg hm2] at hf
          rw [hf.1] at h1
          simp [zFld] at h1
def z_okR (p : Nat) : Bool := !(decide (sh p = 16)) || (List.range 13).all fun i => decide (p + 1 + i < 130) && (decide (sh (p + 1 + i) = 12) && decide (ln (p + 1 + i) = 144))
theorem z_okR_all : (List.range 130).all z_okR = true := by decide +kernel
theorem sh16 {p : Nat} (h : sh p = 16) : p < 130 := by
  by_cases hl : p < 130
  · exact hl
  · unfold sh at h
    rw [if_neg hl] at h
    split at h
    · cases h
    · split at h
      · cases h
      · split at h <;> cases h
theorem Sh.row {n p i : Nat} (hn : nOk n) (h : Sh n p 16 13) (hi : i < 13) : Sh n (p + 1 + i) 12 144 := by
  obtain ⟨hp, h1, h2⟩ := h
  have hl := sh16 h1
  have h3 := List.all_eq_true.mp z_okR_all p (List.mem_range.mpr hl)
  unfold z_okR at h3
  rw [h1] at h3
  simp only [decide_true, Bool.not_true, Bool.false_or] at h3
  have h4 := List.all_eq_true.mp h3 i (List.mem_range.mpr hi)
  simp only [Bool.and_eq_true, decide_eq_true_eq] at h4
  exact ⟨hn.in h4.1, h4.2.1, h4.2.2⟩
