/-! ===== a calculated member ===== -/
section
variable {σ : Hp} {a a' b : Ab} {n : Nat} {B : Int} {e : Nat} {d o : Int}
/-- the draft's words at another place too -/
def kwS (t : Hp) (i k : Int) : Hp := fun q j => if 137 ≤ q ∧ q ≤ 139 ∧ 10 * i ≤ j ∧ j < 10 * i + k then t q (360 + (j - 10 * i)) else t q j
theorem kw_q {t : Hp} {i k : Int} {q : Nat} (h : q < 137 ∨ 139 < q) : kwS t i k q = t q := by funext j; unfold kwS; rw [if_neg (by omega)]
theorem kw_0 (t : Hp) (i : Int) : kwS t i 0 = t := by funext q j; unfold kwS; rw [if_neg (by omega)]
theorem kw_v {t : Hp} {i k j : Int} {q : Nat} (h : 137 ≤ q ∧ q ≤ 139) (h2 : 10 * i ≤ j ∧ j < 10 * i + k) : kwS t i k q j = t q (360 + (j - 10 * i)) := by unfold kwS; rw [if_pos ⟨h.1, h.2, h2.1, h2.2⟩]
theorem kw_n {t : Hp} {i k j : Int} {q : Nat} (h2 : ¬ (10 * i ≤ j ∧ j < 10 * i + k)) : kwS t i k q j = t q j := by unfold kwS; rw [if_neg (fun g => h2 g.2.2)]
theorem kw_s {t : Hp} {i k : Int} (hi : i < 36) (k0 : 0 ≤ k) (k1 : k < 10) {v1 v2 v3 : Int} (h1 : v1 = t 137 (360 + k)) (h2 : v2 = t 138 (360 + k)) (h3 : v3 = t 139 (360 + k)) : hset (hset (hset (kwS t i k) 137 (10 * i + k) v1) 138 (10 * i + k) v2) 139 (10 * i + k) v3 = kwS t i (k + 1) := by
  funext q j
  by_cases hj : j = 10 * i + k
  · subst hj
    have ex : (360 : Int) + (10 * i + k - 10 * i) = 360 + k := by omega
    by_cases q7 : q = 137
    · subst q7; rw [hset_ne (by omega), hset_ne (by omega), hs_eq, kw_v (by omega) (by omega), ex]; exact h1
    by_cases q8 : q = 138
    · subst q8; rw [hset_ne (by omega), hs_eq, kw_v (by omega) (by omega), ex]; exact h2
    by_cases q9 : q = 139
    · subst q9; rw [hs_eq, kw_v (by omega) (by omega), ex]; exact h3
    rw [hset_ne q9, hset_ne q8, hset_ne q7, kw_q (by omega), kw_q (by omega)]
  · rw [hs_nj hj, hs_nj hj, hs_nj hj]
    unfold kwS
    exact ifc (by omega) rfl rfl
/-- the reference's cells then -/
def caX (a : Ab) (d o : Int) : Ab := hset (hset (hset a 130 d (a.many d + 1)) 131 (12 * d + a.many d) 2) 135 (12 * d + a.many d) o
def caB (a : Ab) (d o : Int) : Ab := hset (hset (kwS (caX a d o) (12 * d + a.many d) 10) 140 (12 * d + a.many d) (a.len 36)) 140 36 0
def caA (a : Ab) (d o : Int) : Ab := frs (caB a d o)
theorem ca_q {q : Nat} (h : q < 129 ∨ (132 ≤ q ∧ q ≤ 134) ∨ q = 136 ∨ 140 < q) : caA a d o q = a q := by
  unfold caA caB caX; rw [frs_q (by omega), hset_ne (by omega), hset_ne (by omega), kw_q (by omega), hset_ne (by omega), hset_ne (by omega), hset_ne (by omega)]
theorem ca_j {j : Int} (h : j ≠ 40) : caA a d o 129 j = a 129 j := by
  unfold caA caB caX; rw [frs_j h, hset_ne (by omega), hset_ne (by omega), kw_q (by omega), hset_ne (by omega), hset_ne (by omega), hset_ne (by omega)]
theorem ca_many (j : Int) : Ab.many (caA a d o) j = if j = d then a.many d + 1 else a.many j := by
  show caA a d o 130 j = _
  unfold caA caB caX; rw [frs_q (by omega), hset_ne (by omega), hset_ne (by omega), kw_q (by omega), hset_ne (by omega), hset_ne (by omega)]; exact hs_if
theorem ca_kind (j : Int) : Ab.kind (caA a d o) j = if j = 12 * d + a.many d then 2 else a.kind j := by
  show caA a d o 131 j = _
  unfold caA caB caX; rw [frs_q (by omega), hset_ne (by omega), hset_ne (by omega), kw_q (by omega), hset_ne (by omega), hs_if, hset_ne (by omega)]; rfl
theorem ca_order (j : Int) : Ab.order (caA a d o) j = if j = 12 * d + a.many d then o else a.order j := by
  show caA a d o 135 j = _
  unfold caA caB caX; rw [frs_q (by omega), hset_ne (by omega), hset_ne (by omega), kw_q (by omega), hs_if, hset_ne (by omega), hset_ne (by omega)]; rfl
theorem ca_len (j : Int) : Ab.len (caA a d o) j = if j = 36 then 0 else if j = 12 * d + a.many d then a.len 36 else a.len j := by
  show caA a d o 140 j = _
  unfold caA caB caX; rw [frs_q (by omega), hs_if, hs_if, kw_q (by omega), hset_ne (by omega), hset_ne (by omega), hset_ne (by omega)]; rfl
theorem ca_new {q : Nat} {k : Int} (h : 137 ≤ q ∧ q ≤ 139) (k0 : 0 ≤ k) (k1 : k < 10) : caA a d o q (10 * (12 * d + a.many d) + k) = a q (10 * 36 + k) := by
  unfold caA caB caX; rw [frs_q (by omega), hset_ne (by omega), hset_ne (by omega), kw_v h (by omega), hset_ne (by omega), hset_ne (by omega), hset_ne (by omega)]
  rw [show (360 : Int) + (10 * (12 * d + a.many d) + k - 10 * (12 * d + a.many d)) = 10 * 36 + k by omega]
theorem ca_old {q : Nat} {j : Int} (h : 137 ≤ q ∧ q ≤ 139) (hj : ¬ (10 * (12 * d + a.many d) ≤ j ∧ j < 10 * (12 * d + a.many d) + 10)) : caA a d o q j = a q j := by
  unfold caA caB caX; rw [frs_q (by omega), hset_ne (by omega), hset_ne (by omega), kw_n hj, hset_ne (by omega), hset_ne (by omega), hset_ne (by omega)]
theorem ca_B : nwB a (caA a d o) d 2 (a.par (12 * d + a.many d)) (a.sign (12 * d + a.many d)) (a.set (12 * d + a.many d)) o := by
  have h132 : Ab.par (caA a d o) = a.par := ca_q (by omega)
  have h133 : Ab.sign (caA a d o) = a.sign := ca_q (by omega)
  have h134 : Ab.set (caA a d o) = a.set := ca_q (by omega)
  have s : ∀ (f : Int → Int) (i j : Int), f j = if j = i then f i else f j := fun f i j => by
    by_cases g : j = i
    · rw [if_pos g, g]
    · rw [if_neg g]
  exact ⟨ca_many, ca_kind, fun j => by rw [h132]; exact s _ _ _, fun j => by rw [h133]; exact s _ _ _, fun j => by rw [h134]; exact s _ _ _, ca_order, fun q hq => ca_q (by omega), ca_j (by omega)⟩
def caC (a : Ab) (d o : Int) : Prop := inD d ∧ a.many d < 12 ∧ 0 ≤ o ∧ o ≤ 100
theorem ca_C (C : caC a d o) : nwC a d 2 (a.par (12 * d + a.many d)) (a.sign (12 * d + a.many d)) (a.set (12 * d + a.many d)) o := ⟨C.1, C.2.1, Or.inr (Or.inr ⟨rfl, C.2.2⟩)⟩
theorem ca_Z (W : WFA a) (C : caC a d o) : grz a (caA a d o) := by
  intro d' hd'
  refine ⟨?_, fun k hk => ?_⟩
  · rw [ca_many]
    by_cases g : d' = d
    · rw [if_pos g, g]; omega
    · rw [if_neg g]; exact Int.le_refl _
  · have k12 := thr12 W hd' hk
    rw [ca_kind, if_neg (nw_ne W C.1 C.2.1 hd' k12.1 k12.2 (fun g => by have := hk.2; rw [g.1, g.2] at this; omega))]
theorem ca_M : smea a (caA a d o) := ⟨ca_q (by omega), ca_q (by omega), ca_q (by omega), ca_q (by omega), ca_j (by omega)⟩
theorem ca_F : sfac a (caA a d o) := ⟨fun q h1 h2 => ca_q (by omega), ca_j (by omega), ca_j (by omega)⟩
theorem ca_P : spk a (caA a d o) := ⟨ca_q (by omega), ca_q (by omega), ca_q (by omega)⟩
theorem ca_S : sPr a (caA a d o) := ⟨ca_q (by omega), ca_q (by omega), ca_q (by omega), ca_q (by omega), ca_q (by omega), ca_q (by omega), ca_j (by omega)⟩
theorem ca_W (W : WFA a) (C : caC a d o) : WFA (caA a d o) := by
  have h := nw_W W (ca_C C) (ca_B (a := a) (d := d) (o := o))
  refine WFA_all (fun k hk => ?_) (wfa_8 W (ca_j (by omega)) (ca_j (by omega))) (wfa_m W ca_M) (wfa_fg W (ca_Z W C) ca_M ca_F) (wfa_k0 (frs_0 _)) (wfa_pg W (ca_Z W C) ca_P) ?_
  · rcases hk with hk | hk
    · exact h k hk
    · subst hk
      obtain ⟨row, c, hc, hpl⟩ : ∃ row c, Chn a row c ∧ ∀ i : Int, 0 ≤ i → i < c → a.place (row i) = i := W 9
      refine ⟨row, c, Chn_t (wT W) (nw_sTm W (ca_C C) (Or.inl (by omega)) ca_B) hc, ?_⟩
      rw [show Ab.place (caA a d o) = a.place from ca_q (by omega)]; exact hpl
  · show 0 ≤ Ab.len (caA a d o) 36 ∧ Ab.len (caA a d o) 36 ≤ 10
    rw [ca_len, if_pos rfl]; omega
/-! its words -/
theorem ca_pn : ∀ k : Nat, k ≤ 10 → pilF (caA a d o) (12 * d + a.many d) k = pilF a 36 k
  | 0, _ => rfl
  | k + 1, h => by
    have ih := ca_pn k (by omega)
    have e : Ab.what (caA a d o) (10 * (12 * d + a.many d) + (k : Int)) = a.what (10 * 36 + k) := ca_new (by omega) (by omega) (by omega)
    simp only [pilF, ih, e]
theorem ca_po {s : Int} (hs : s ≠ 12 * d + a.many d) : ∀ k : Nat, k ≤ 10 → pilF (caA a d o) s k = pilF a s k
  | 0, _ => rfl
  | k + 1, h => by
    have ih := ca_po hs k (by omega)
    have e : Ab.what (caA a d o) (10 * s + (k : Int)) = a.what (10 * s + k) := ca_old (by omega) (by omega)
    simp only [pilF, ih, e]
theorem ca_K (W : WFA a) (K : WFW a) (C : caC a d o) (hp : pilF a 36 (a.len 36).toNat = 1) (hl : ∀ k : Int, 0 ≤ k → k < a.len 36 → a.what (10 * 36 + k) = 1 ∨ a.what (10 * 36 + k) = 2 → a.one (10 * 36 + k) < a.many d) : WFW (caA a d o) := by
  have mb := many_b W C.1
  have hd' := inD_b C.1
  have hm := C.2.1
  have k0 : wrdOk a 36 := K 0
  have k1 := (show ∀ d m : Int, inD d → thr a d m → a.kind (12 * d + m) = 2 → 0 < m ∧ wrdOk a (12 * d + m) ∧ pilF a (12 * d + m) (a.len (12 * d + m)).toNat = 1 ∧ ∀ k : Int, 0 ≤ k → k < a.len (12 * d + m) → a.what (10 * (12 * d + m) + k) = 1 ∨ a.what (10 * (12 * d + m) + k) = 2 → a.one (10 * (12 * d + m) + k) < m from K 1)
  have en : Ab.len (caA a d o) (12 * d + a.many d) = a.len 36 := by rw [ca_len, if_neg (by omega), if_pos rfl]
  intro k
  match k with
  | 0 =>
    show wrdOk (caA a d o) 36
    unfold wrdOk
    rw [ca_len, if_pos rfl]
    exact ⟨by omega, by omega, fun k hk => by omega⟩
  | 1 =>
    intro d' m hd'' ht hk2
    have k12 := nw_lt W C.1 hm ca_B hd'' ht
    by_cases g : d' = d ∧ m = a.many d
    · obtain ⟨rfl, rfl⟩ := g
      refine ⟨by omega, ?_, ?_, ?_⟩
      · unfold wrdOk at k0 ⊢
        rw [en]
        refine ⟨k0.1, k0.2.1, fun k hk => ?_⟩
        have ew : Ab.what (caA a d' o) (10 * (12 * d' + a.many d') + (k : Int)) = a.what (10 * 36 + k) := ca_new (by omega) (by omega) (by have := k0.2.1; omega)
        have eo : Ab.one (caA a d' o) (10 * (12 * d' + a.many d') + (k : Int)) = a.one (10 * 36 + k) := ca_new (by omega) (by omega) (by have := k0.2.1; omega)
        have et : Ab.two (caA a d' o) (10 * (12 * d' + a.many d') + (k : Int)) = a.two (10 * 36 + k) := ca_new (by omega) (by omega) (by have := k0.2.1; omega)
        rw [ew, eo, et, ca_pn k (by have := k0.2.1; omega)]
        exact k0.2.2 k hk
      · rw [en, ca_pn _ (by have := k0.2.1; omega)]; exact hp
      · intro k q0 q1 hw
        rw [en] at q1
        have ew : Ab.what (caA a d' o) (10 * (12 * d' + a.many d') + k) = a.what (10 * 36 + k) := ca_new (by omega) (by omega) (by have := k0.2.1; omega)
        have eo : Ab.one (caA a d' o) (10 * (12 * d' + a.many d') + k) = a.one (10 * 36 + k) := ca_new (by omega) (by omega) (by have := k0.2.1; omega)
        rw [ew] at hw
        rw [eo]; exact hl k q0 q1 hw
    · have ne := nw_ne W C.1 hm hd'' k12.1 k12.2 g
      have ht' := (nw_t ca_B g).mp ht
      rw [ca_kind, if_neg ne] at hk2
      obtain ⟨g1, g2, g3, g4⟩ := k1 d' m hd'' ht' hk2
      have hdd := inD_b hd''
      have el : Ab.len (caA a d o) (12 * d' + m) = a.len (12 * d' + m) := by rw [ca_len, if_neg (by omega), if_neg ne]
      have lb : 0 ≤ a.len (12 * d' + m) ∧ a.len (12 * d' + m) ≤ 10 := ⟨g2.1, g2.2.1⟩
      refine ⟨g1, ?_, ?_, ?_⟩
      · unfold wrdOk at g2 ⊢
        rw [el]
        refine ⟨g2.1, g2.2.1, fun k hk => ?_⟩
        have ew : Ab.what (caA a d o) (10 * (12 * d' + m) + (k : Int)) = a.what (10 * (12 * d' + m) + k) := ca_old (by omega) (by omega)
        have eo : Ab.one (caA a d o) (10 * (12 * d' + m) + (k : Int)) = a.one (10 * (12 * d' + m) + k) := ca_old (by omega) (by omega)
        have et : Ab.two (caA a d o) (10 * (12 * d' + m) + (k : Int)) = a.two (10 * (12 * d' + m) + k) := ca_old (by omega) (by omega)
        rw [ew, eo, et, ca_po ne k (by omega)]
        exact g2.2.2 k hk
      · rw [el, ca_po ne _ (by omega)]; exact g3
      · intro k q0 q1 hw
        rw [el] at q1
        have ew : Ab.what (caA a d o) (10 * (12 * d' + m) + k) = a.what (10 * (12 * d' + m) + k) := ca_old (by omega) (by omega)
        have eo : Ab.one (caA a d o) (10 * (12 * d' + m) + k) = a.one (10 * (12 * d' + m) + k) := ca_old (by omega) (by omega)
        rw [ew] at hw
        rw [eo]; exact g4 k q0 q1 hw
  | _ + 2 => trivial
end
