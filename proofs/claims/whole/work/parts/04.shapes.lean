/-! the shapes of the cells: kinds (classes 0..11, int[] 12, long[] 13, boolean[] 14, Formula[] 15, int[][] 16), lengths, types of the slots -/
def zN : Nat := 171
def zKinds : List Nat := [10, 7, 0, 5, 12, 12, 12, 12, 12, 12, 12, 12, 14, 15, 12, 12, 12, 14, 16, 12, 12, 12, 12, 12, 12, 12, 12, 12, 12, 12, 12, 12, 0, 5, 12, 12, 12, 12, 12, 12, 12, 12, 14, 15, 12, 12, 12, 14, 16, 12, 12, 12, 12, 12, 12, 12, 12, 12, 12, 12, 12, 12, 0, 5, 12, 12, 12, 12, 12, 12, 12, 12, 14, 15, 12, 12, 12, 14, 16, 12, 12, 12, 12, 12, 12, 12, 12, 12, 12, 12, 12, 12, 9, 12, 12, 4, 12, 12, 12, 12, 12, 1, 12, 12, 12, 12, 12, 12, 3, 12, 12, 13, 8, 13, 13, 13, 6, 12, 13, 13, 13, 12, 12, 12, 13, 2, 12, 12, 12, 11, 12, 12, 12, 12, 12, 12, 12, 12, 12, 12, 12, 12, 12, 12, 12, 12, 12, 12, 12, 12, 12, 12, 12, 12, 12, 12, 12, 12, 12, 12, 13, 12, 12, 12, 12, 12, 13, 12, 13, 13, 13]
def zLens : List Nat := [0, 0, 0, 0, 10, 10, 10, 12, 12, 12, 12, 12, 12, 12, 12, 12, 12, 12, 13, 144, 144, 144, 144, 144, 144, 144, 144, 144, 144, 144, 144, 144, 0, 0, 10, 10, 10, 12, 12, 12, 12, 12, 12, 12, 12, 12, 12, 12, 13, 144, 144, 144, 144, 144, 144, 144, 144, 144, 144, 144, 144, 144, 0, 0, 10, 10, 10, 12, 12, 12, 12, 12, 12, 12, 12, 12, 12, 12, 13, 144, 144, 144, 144, 144, 144, 144, 144, 144, 144, 144, 144, 144, 0, 12, 12, 0, 4, 4, 4, 4, 12, 0, 50, 50, 50, 50, 50, 50, 0, 20, 20, 20, 0, 50, 50, 50, 0, 1728, 1728, 410, 4, 50, 50, 50, 12, 0, 10, 10, 10, 0, 3, 36, 36, 36, 36, 36, 36, 370, 370, 370, 37, 10, 10, 10, 10, 12, 4, 4, 4, 12, 51, 51, 51, 51, 51, 51, 51, 51, 51, 51, 13824, 13824, 21, 3, 36, 3, 3700, 51, 51, 51, 1]
def zFld (k : Nat) : List (Nat × Int) := match k with
  | 0 => [(0, 0), (0, 0), (0, 0), (4, 1), (4, 5), (4, 6), (4, 7), (4, 8), (4, 9), (4, 10), (4, 11), (4, 12), (4, 13), (4, 14), (4, 15), (4, 16)]
  | 1 => [(0, 0), (0, 0), (2, 0), (4, 1), (4, 2), (4, 3), (4, 4), (4, 5), (4, 6)]
  | 2 => [(0, 0), (0, 0), (4, 1), (4, 2), (4, 3)]
  | 3 => [(0, 0), (0, 0), (4, 1), (4, 2), (4, 3)]
  | 4 => [(0, 0), (4, 1), (4, 2), (4, 3), (4, 4), (4, 5)]
  | 5 => [(0, 0), (4, 1), (4, 2), (4, 3)]
  | 6 => [(4, -115), (4, -21), (4, -15), (0, 0), (0, 0), (4, 1), (4, 2), (4, 3), (4, 4), (0, 0), (4, 5), (4, 6), (4, 7), (4, 8)]
  | 7 => [(4, 1), (4, 31), (4, 61), (4, 91), (2, 0), (2, 0)]
  | 8 => [(0, 0), (1, 0), (4, 1), (4, 2), (4, 3)]
  | 9 => [(0, 0), (4, 1), (4, 2)]
  | 10 => [(4, 1), (4, 95), (4, 101), (4, 108), (4, 112), (4, 116), (3, 0)]
  | 11 => [(4, 1), (4, 2), (4, 3), (4, 4), (4, 5), (4, 6), (4, 7), (4, 8), (4, 9), (4, 10), (4, 11), (4, 12), (4, 13), (4, 14), (4, 15), (0, 0), (2, 0), (2, 0), (4, 16), (4, 17), (4, 18), (4, 19), (4, 20), (0, 0), (4, 21), (4, 22), (4, 23), (4, 24), (4, 25), (0, 0), (4, 26), (4, 27), (4, 28), (4, 29), (4, 30), (0, 0), (4, 31), (4, 32), (0, 0), (4, 33), (0, 0), (0, 0), (4, 34), (4, 35), (4, 36), (4, 37), (0, 0), (4, 38), (4, 39), (4, 40), (0, 0)]
  | _ => []
def zTgt (k : Nat) : List (Nat × Nat) := match k with
  | 0 => [(99, 0), (99, 0), (99, 0), (5, 0), (12, 12), (12, 12), (12, 12), (12, 12), (12, 12), (14, 12), (15, 12), (12, 12), (12, 12), (12, 12), (14, 12), (16, 13)]
  | 1 => [(99, 0), (99, 0), (99, 0), (12, 50), (12, 50), (12, 50), (12, 50), (12, 50), (12, 50)]
  | 2 => [(99, 0), (99, 0), (12, 10), (12, 10), (12, 10)]
  | 3 => [(99, 0), (99, 0), (12, 20), (12, 20), (13, 20)]
  | 4 => [(99, 0), (12, 4), (12, 4), (12, 4), (12, 4), (12, 12)]
  | 5 => [(99, 0), (12, 10), (12, 10), (12, 10)]
  | 6 => [(7, 0), (4, 0), (1, 0), (99, 0), (99, 0), (12, 1728), (13, 1728), (13, 410), (13, 4), (99, 0), (12, 50), (12, 50), (12, 50), (13, 12)]
  | 7 => [(0, 0), (0, 0), (0, 0), (9, 0), (99, 0), (99, 0)]
  | 8 => [(99, 0), (99, 0), (13, 50), (13, 50), (13, 50)]
  | 9 => [(99, 0), (12, 12), (12, 12)]
  | 10 => [(7, 0), (4, 0), (1, 0), (3, 0), (8, 0), (6, 0), (99, 0)]
  | 11 => [(12, 3), (12, 36), (12, 36), (12, 36), (12, 36), (12, 36), (12, 36), (12, 370), (12, 370), (12, 370), (12, 37), (12, 10), (12, 10), (12, 10), (12, 10), (99, 0), (99, 0), (99, 0), (12, 12), (12, 4), (12, 4), (12, 4), (12, 12), (99, 0), (12, 51), (12, 51), (12, 51), (12, 51), (12, 51), (99, 0), (12, 51), (12, 51), (12, 51), (12, 51), (12, 51), (99, 0), (13, 13824), (12, 13824), (99, 0), (12, 21), (99, 0), (99, 0), (12, 3), (12, 36), (12, 3), (13, 3700), (99, 0), (12, 51), (13, 51), (13, 51), (99, 0)]
  | _ => []

def sh (p : Nat) : Nat := if p < 171 then zKinds.getD p 99 else if (p - 171) % 4 = 0 then 2 else 12
def ln (p : Nat) : Nat := if p < 171 then zLens.getD p 0 else if (p - 171) % 4 = 0 then 0 else 10
def Sh (n p k L : Nat) : Prop := p < n ∧ sh p = k ∧ ln p = L
def nOk (n : Nat) : Prop := ∃ j : Nat, n = 171 + 4 * j
theorem nOk.le {n : Nat} (h : nOk n) : 171 ≤ n := by obtain ⟨j, rfl⟩ := h; omega
theorem Sh.of {n p k L : Nat} (hn : nOk n) (h : p < 171) (h1 : sh p = k) (h2 : ln p = L) : Sh n p k L := ⟨Nat.lt_of_lt_of_le h hn.le, h1, h2⟩
theorem Sh.mono {n m p k L : Nat} (h : Sh n p k L) (hm : n ≤ m) : Sh m p k L := ⟨Nat.lt_of_lt_of_le h.1 hm, h.2⟩
def z_okT (p : Nat) : Bool := (List.range (zFld (sh p)).length).all fun j => match (zFld (sh p))[j]?, (zTgt (sh p))[j]? with
  | some (4, o), some (k, L) => decide (0 ≤ (p : Int) + o) && (decide (((p : Int) + o).toNat < 171) && (decide (sh ((p : Int) + o).toNat = k) && decide (ln ((p : Int) + o).toNat = L)))
  | some (4, _), none => false
  | _, _ => true
theorem z_okT_all : (List.range 171).all z_okT = true := by decide +kernel
theorem Sh.tgt {n p k L j k' L' P' : Nat} {o : Int} (hn : nOk n) (h : Sh n p k L) (h1 : (zFld k)[j]? = some (4, o)) (h2 : (zTgt k)[j]? = some (k', L')) (hP : (P' : Int) = p + o) : Sh n P' k' L' := by
  obtain ⟨hp, rfl, rfl⟩ := h
  by_cases hl : p < 171
  · have h3 := List.all_eq_true.mp z_okT_all p (List.mem_range.mpr hl)
    unfold z_okT at h3
    have hj : j < (zFld (sh p)).length := (List.getElem?_eq_some_iff.mp h1).1
    have h4 := List.all_eq_true.mp h3 j (List.mem_range.mpr hj)
    rw [h1, h2] at h4
    simp only [Bool.and_eq_true, decide_eq_true_eq] at h4
    have e : ((p : Int) + o).toNat = P' := by omega
    rw [e] at h4
    exact ⟨Nat.lt_of_lt_of_le h4.2.1 hn.le, h4.2.2.1, h4.2.2.2⟩
  · obtain ⟨i, rfl⟩ := hn
    have hm : sh p = 2 ∨ sh p = 12 := by unfold sh; rw [if_neg hl]; split <;> simp
    rcases hm with hm | hm
    · have hm2 : (p - 171) % 4 = 0 := by
        unfold sh at hm
        rw [if_neg hl] at hm
        by_cases q : (p - 171) % 4 = 0
        · exact q
        · rw [if_neg q] at hm; cases hm
      rw [hm] at h1 h2
      have hj : j < 5 := (List.getElem?_eq_some_iff.mp h1).1
      have key : ∀ d : Nat, 1 ≤ d → d ≤ 3 → (P' : Int) = p + d → Sh (171 + 4 * i) P' 12 10 := by
        intro d d1 d3 hd
        have hP2 : P' = p + d := by omega
        subst hP2
        refine ⟨by omega, ?_, ?_⟩
        · unfold sh; rw [if_neg (by omega), if_neg (by omega)]
        · unfold ln; rw [if_neg (by omega), if_neg (by omega)]
      match j, hj with
      | 0, _ => cases h1
      | 1, _ => cases h1
      | 2, _ => cases h1; cases h2; exact key 1 (by omega) (by omega) hP
      | 3, _ => cases h1; cases h2; exact key 2 (by omega) (by omega) hP
      | 4, _ => cases h1; cases h2; exact key 3 (by omega) (by omega) hP
    · rw [hm] at h1
      simp [zFld] at h1
def z_okR (p : Nat) : Bool := !(decide (sh p = 16)) || (List.range 13).all fun i => decide (p + 1 + i < 171) && (decide (sh (p + 1 + i) = 12) && decide (ln (p + 1 + i) = 144))
theorem z_okR_all : (List.range 171).all z_okR = true := by decide +kernel
theorem Sh.row {n p i : Nat} (hn : nOk n) (h : Sh n p 16 13) (hi : i < 13) : Sh n (p + 1 + i) 12 144 := by
  obtain ⟨hp, h1, h2⟩ := h
  by_cases hl : p < 171
  · have h3 := List.all_eq_true.mp z_okR_all p (List.mem_range.mpr hl)
    unfold z_okR at h3
    rw [h1] at h3
    simp only [decide_true, Bool.not_true, Bool.false_or] at h3
    have h4 := List.all_eq_true.mp h3 i (List.mem_range.mpr hi)
    simp only [Bool.and_eq_true, decide_eq_true_eq] at h4
    exact ⟨Nat.lt_of_lt_of_le h4.1 hn.le, h4.2.1, h4.2.2⟩
  · unfold sh at h1
    rw [if_neg hl] at h1
    split at h1 <;> cases h1

