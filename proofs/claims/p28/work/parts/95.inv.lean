/-! ===== what a call of the class leaves ===== -/
section
variable {σ s : Hp} {a a' b : Ab} {n : Nat} {B B' : Int} {e : Nat} {C : Prop} {S : Int → Ab → Prop}
/-- the law's own objects -/
def kpQ (σ s : Hp) : Prop := ∀ q : Nat, 129 ≤ q → (q ≤ 169 ∨ 1048576 ≤ q) → s q = σ q
theorem kpQ_t {r : Hp} (h : kpQ σ s) (g : kpQ s r) : kpQ σ r := fun q q1 q2 => (g q q1 q2).trans (h q q1 q2)
def Aftr (σ : Hp) (a : Ab) (n : Nat) (B : Int) (C : Prop) (S : Int → Ab → Prop) (c : Nat) (v : Int) (s : Hp) : Prop := ∃ a', (c = 0 → S v a') ∧ (c ≠ 0 → a' = a ∧ ¬ C) ∧ kpQ σ s ∧ J s a' n (B + 60)
theorem J_up (H : J σ a n B) (h : B ≤ B') : J σ a n B' := ⟨H.1, H.2.1, trivial, IC_m H.1 (fun _ _ => rfl) h H.2.2.2.1, trivial, H.2.2.2.2.2.1, by have := H.2.2.2.2.2.2; omega⟩
theorem inv_J (g : gdA a' B) (h : IC s a' n B) : J s a' n B := ⟨g.1, g.2.1, trivial, h, trivial, g.2.2.1, g.2.2.2⟩
theorem inv_o {k : Nat × Int × Hp → Option (Int × Nat × Hp)} {x : Option (Nat × Int × Hp)} {P : Nat → Prop} (hk : ∀ (r : Nat × Int × Hp) (l : Int × Nat × Hp), r.1 ≠ 0 → k r = some l → P r.1 ∧ 1 ≤ l.1 ∧ l.2.2 = r.2.2) (O : OPT σ a n B e (TT a C S) (x.bind fun v1 => if v1.1 = 0 then grd (0 ≤ (0 : Int) ∧ (0 : Int) < 1) <| some (0, e, (hset v1.2.2 170 0 v1.2.1)) else k v1)) : Okk x fun r => (r.1 = 0 ∨ P r.1) ∧ Aftr σ a n B C S r.1 r.2.1 r.2.2 := by
  obtain ⟨code, v, a', g, hT, l, el, l1, l2, l3, l4, l5⟩ := O
  cases x with
  | none => exact absurd el (by intro q; cases q)
  | some r =>
    refine ⟨r, rfl, ?_⟩
    have el' : (if r.1 = 0 then grd (0 ≤ (0 : Int) ∧ (0 : Int) < 1) <| some (0, e, (hset r.2.2 170 0 r.2.1)) else k r) = some l := el
    by_cases h : r.1 = 0
    · rw [if_pos h, grd_t (by omega)] at el'
      have el2 : l = (0, e, hset r.2.2 170 0 r.2.1) := (Option.some.inj el').symm
      subst el2
      have c0 : code = 0 := l1.symm
      have l2' : hset r.2.2 170 0 r.2.1 170 0 = v := l2 c0
      have ev : r.2.1 = v := by rw [hs_eq] at l2'; exact l2'
      refine ⟨Or.inl h, a', fun _ => ?_, fun q => absurd h q, fun q q1 q2 => ?_, inv_J g (IC_m g.1 (fun q hq => (hset_ne (by omega)).symm) (Int.le_refl _) l5)⟩
      · rcases hT with ⟨_, t⟩ | ⟨t, _⟩
        · rw [ev]; exact t
        · omega
      · have z : hset r.2.2 170 0 r.2.1 q = σ q := l4 q q1 q2
        rw [hset_ne (by omega)] at z; exact z
    · rw [if_neg h] at el'
      obtain ⟨p, p1, p2⟩ := hk r l h el'
      refine ⟨Or.inr p, a', fun q => absurd q h, fun _ => ?_, fun q q1 q2 => ?_, ?_⟩
      · rcases hT with ⟨t, _⟩ | ⟨_, t1, t2⟩
        · omega
        · exact ⟨t1, t2⟩
      · rw [← p2]; exact l4 q q1 q2
      · rw [← p2]; exact inv_J g l5
theorem inv_s {k : Nat × Int → Option (Int × Nat × Hp)} {x : Option (Nat × Int)} (hk : ∀ (r : Nat × Int) (l : Int × Nat × Hp), r.1 ≠ 0 → k r = some l → 1 ≤ l.1) (O : OPT σ a n B e (TT a C S) (x.bind fun v1 => if v1.1 = 0 then grd (0 ≤ (0 : Int) ∧ (0 : Int) < 1) <| some (0, e, (hset σ 170 0 v1.2)) else k v1)) : Okk x fun r => (r.1 = 0 → ∃ a', S r.2 a') ∧ (r.1 ≠ 0 → ¬ C) := by
  obtain ⟨code, v, a', g, hT, l, el, l1, l2, l3, l4, l5⟩ := O
  cases x with
  | none => exact absurd el (by intro q; cases q)
  | some r =>
    refine ⟨r, rfl, ?_⟩
    have el' : (if r.1 = 0 then grd (0 ≤ (0 : Int) ∧ (0 : Int) < 1) <| some (0, e, (hset σ 170 0 r.2)) else k r) = some l := el
    by_cases h : r.1 = 0
    · rw [if_pos h, grd_t (by omega)] at el'
      have el2 : l = (0, e, hset σ 170 0 r.2) := (Option.some.inj el').symm
      subst el2
      have c0 : code = 0 := l1.symm
      have l2' : hset σ 170 0 r.2 170 0 = v := l2 c0
      have ev : r.2 = v := by rw [hs_eq] at l2'; exact l2'
      refine ⟨fun _ => ⟨a', ?_⟩, fun q => absurd h q⟩
      rcases hT with ⟨_, t⟩ | ⟨t, _⟩
      · rw [ev]; exact t
      · omega
    · rw [if_neg h] at el'
      have p1 := hk r l h el'
      refine ⟨fun q => absurd q h, fun _ => ?_⟩
      rcases hT with ⟨t, _⟩ | ⟨_, t1, t2⟩
      · omega
      · exact t2
theorem inv_b {k : Nat × Hp → Option (Int × Nat × Hp)} {x : Option (Nat × Hp)} {P : Nat → Prop} {S : Ab → Prop} (hk : ∀ (r : Nat × Hp) (l : Int × Nat × Hp), r.1 ≠ 0 → k r = some l → P r.1 ∧ 1 ≤ l.1 ∧ l.2.2 = r.2) (O : OPT σ a n B e (TT a C (fun _ b => S b)) (x.bind fun v1 => if v1.1 = 0 then some (0, e, v1.2) else k v1)) : Okk x fun r => (r.1 = 0 ∨ P r.1) ∧ Aftr σ a n B C (fun _ b => S b) r.1 0 r.2 := by
  obtain ⟨code, v, a', g, hT, l, el, l1, l2, l3, l4, l5⟩ := O
  cases x with
  | none => exact absurd el (by intro q; cases q)
  | some r =>
    refine ⟨r, rfl, ?_⟩
    have el' : (if r.1 = 0 then some (0, e, r.2) else k r) = some l := el
    by_cases h : r.1 = 0
    · rw [if_pos h] at el'
      have el2 : l = (0, e, r.2) := (Option.some.inj el').symm
      subst el2
      have c0 : code = 0 := l1.symm
      refine ⟨Or.inl h, a', fun _ => ?_, fun q => absurd h q, l4, inv_J g l5⟩
      rcases hT with ⟨_, t⟩ | ⟨t, _⟩
      · exact t
      · omega
    · rw [if_neg h] at el'
      obtain ⟨p, p1, p2⟩ := hk r l h el'
      refine ⟨Or.inr p, a', fun q => absurd q h, fun _ => ?_, fun q q1 q2 => ?_, ?_⟩
      · rcases hT with ⟨t, _⟩ | ⟨_, t1, t2⟩
        · omega
        · exact ⟨t1, t2⟩
      · rw [← p2]; exact l4 q q1 q2
      · rw [← p2]; exact inv_J g l5
theorem inv_h {k : Nat × Int × Hp → Option (Int × Nat × Hp)} {x : Option (Nat × Int × Hp)} {P : Nat → Prop} {S : Ab → Prop} (hk : ∀ (r : Nat × Int × Hp) (l : Int × Nat × Hp), r.1 ≠ 0 → k r = some l → P r.1 ∧ 1 ≤ l.1 ∧ l.2.2 = r.2.2) (O : OPT σ a n B e (TT a C (fun _ b => S b)) (x.bind fun v1 => if v1.1 = 0 then (if v1.2.1 = 0 then some 0 else some 1 : Option (Int)).bind fun j4 => grd (0 ≤ (0 : Int) ∧ (0 : Int) < 1) <| some (0, e, (hset v1.2.2 170 0 j4)) else k v1)) : Okk x fun r => (r.1 = 0 ∨ P r.1) ∧ Aftr σ a n B C (fun _ b => S b) r.1 r.2.1 r.2.2 := by
  obtain ⟨code, v, a', g, hT, l, el, l1, l2, l3, l4, l5⟩ := O
  cases x with
  | none => exact absurd el (by intro q; cases q)
  | some r =>
    refine ⟨r, rfl, ?_⟩
    have el' : (if r.1 = 0 then (if r.2.1 = 0 then some 0 else some 1 : Option (Int)).bind fun j4 => grd (0 ≤ (0 : Int) ∧ (0 : Int) < 1) <| some (0, e, (hset r.2.2 170 0 j4)) else k r) = some l := el
    by_cases h : r.1 = 0
    · rw [if_pos h] at el'
      have el2 : ∃ j : Int, l = (0, e, hset r.2.2 170 0 j) := by
        by_cases z : r.2.1 = 0
        · rw [if_pos z] at el'
          exact ⟨0, (Option.some.inj ((grd_t (by omega)).symm.trans el')).symm⟩
        · rw [if_neg z] at el'
          exact ⟨1, (Option.some.inj ((grd_t (by omega)).symm.trans el')).symm⟩
      obtain ⟨j, el2⟩ := el2
      subst el2
      have c0 : code = 0 := l1.symm
      refine ⟨Or.inl h, a', fun _ => ?_, fun q => absurd h q, fun q q1 q2 => ?_, inv_J g (IC_m g.1 (fun q hq => (hset_ne (by omega)).symm) (Int.le_refl _) l5)⟩
      · rcases hT with ⟨_, t⟩ | ⟨t, _⟩
        · exact t
        · omega
      · have z : hset r.2.2 170 0 j q = σ q := l4 q q1 q2
        rw [hset_ne (by omega)] at z; exact z
    · rw [if_neg h] at el'
      obtain ⟨p, p1, p2⟩ := hk r l h el'
      refine ⟨Or.inr p, a', fun q => absurd q h, fun _ => ?_, fun q q1 q2 => ?_, ?_⟩
      · rcases hT with ⟨t, _⟩ | ⟨_, t1, t2⟩
        · omega
        · exact ⟨t1, t2⟩
      · rw [← p2]; exact l4 q q1 q2
      · rw [← p2]; exact inv_J g l5
theorem k_123 {r : Nat × Int × Hp} {l : Int × Nat × Hp} (h : (if r.1 = 1 then some (1, (e + 1), r.2.2) else if r.1 = 2 then some (2, (e + 1), r.2.2) else if r.1 = 3 then some (3, (e + 1), r.2.2) else none : Option (Int × Nat × Hp)) = some l) : (r.1 = 1 ∨ r.1 = 2 ∨ r.1 = 3) ∧ 1 ≤ l.1 ∧ l.2.2 = r.2.2 := by
  by_cases z1 : r.1 = 1
  · rw [if_pos z1] at h; cases h; exact ⟨Or.inl z1, (by show (1 : Int) ≤ 1; omega), rfl⟩
  rw [if_neg z1] at h
  by_cases z2 : r.1 = 2
  · rw [if_pos z2] at h; cases h; exact ⟨Or.inr (Or.inl z2), (by show (1 : Int) ≤ 2; omega), rfl⟩
  rw [if_neg z2] at h
  by_cases z3 : r.1 = 3
  · rw [if_pos z3] at h; cases h; exact ⟨Or.inr (Or.inr (z3)), (by show (1 : Int) ≤ 3; omega), rfl⟩
  rw [if_neg z3] at h
  cases h
theorem k_13 {r : Nat × Int × Hp} {l : Int × Nat × Hp} (h : (if r.1 = 1 then some (1, (e + 1), r.2.2) else if r.1 = 3 then some (2, (e + 1), r.2.2) else none : Option (Int × Nat × Hp)) = some l) : (r.1 = 1 ∨ r.1 = 3) ∧ 1 ≤ l.1 ∧ l.2.2 = r.2.2 := by
  by_cases z1 : r.1 = 1
  · rw [if_pos z1] at h; cases h; exact ⟨Or.inl z1, (by show (1 : Int) ≤ 1; omega), rfl⟩
  rw [if_neg z1] at h
  by_cases z3 : r.1 = 3
  · rw [if_pos z3] at h; cases h; exact ⟨Or.inr (z3), (by show (1 : Int) ≤ 2; omega), rfl⟩
  rw [if_neg z3] at h
  cases h
theorem k_23 {r : Nat × Int × Hp} {l : Int × Nat × Hp} (h : (if r.1 = 2 then some (1, (e + 1), r.2.2) else if r.1 = 3 then some (2, (e + 1), r.2.2) else none : Option (Int × Nat × Hp)) = some l) : (r.1 = 2 ∨ r.1 = 3) ∧ 1 ≤ l.1 ∧ l.2.2 = r.2.2 := by
  by_cases z2 : r.1 = 2
  · rw [if_pos z2] at h; cases h; exact ⟨Or.inl z2, (by show (1 : Int) ≤ 1; omega), rfl⟩
  rw [if_neg z2] at h
  by_cases z3 : r.1 = 3
  · rw [if_pos z3] at h; cases h; exact ⟨Or.inr (z3), (by show (1 : Int) ≤ 2; omega), rfl⟩
  rw [if_neg z3] at h
  cases h
theorem k_12 {r : Nat × Int × Hp} {l : Int × Nat × Hp} (h : (if r.1 = 1 then some (1, (e + 1), r.2.2) else if r.1 = 2 then some (2, (e + 1), r.2.2) else none : Option (Int × Nat × Hp)) = some l) : (r.1 = 1 ∨ r.1 = 2) ∧ 1 ≤ l.1 ∧ l.2.2 = r.2.2 := by
  by_cases z1 : r.1 = 1
  · rw [if_pos z1] at h; cases h; exact ⟨Or.inl z1, (by show (1 : Int) ≤ 1; omega), rfl⟩
  rw [if_neg z1] at h
  by_cases z2 : r.1 = 2
  · rw [if_pos z2] at h; cases h; exact ⟨Or.inr (z2), (by show (1 : Int) ≤ 2; omega), rfl⟩
  rw [if_neg z2] at h
  cases h
theorem k_1 {r : Nat × Int × Hp} {l : Int × Nat × Hp} (h : (if r.1 = 1 then some (1, (e + 1), r.2.2) else none : Option (Int × Nat × Hp)) = some l) : (r.1 = 1) ∧ 1 ≤ l.1 ∧ l.2.2 = r.2.2 := by
  by_cases z1 : r.1 = 1
  · rw [if_pos z1] at h; cases h; exact ⟨z1, (by show (1 : Int) ≤ 1; omega), rfl⟩
  rw [if_neg z1] at h
  cases h
theorem k_3 {r : Nat × Int × Hp} {l : Int × Nat × Hp} (h : (if r.1 = 3 then some (1, (e + 1), r.2.2) else none : Option (Int × Nat × Hp)) = some l) : (r.1 = 3) ∧ 1 ≤ l.1 ∧ l.2.2 = r.2.2 := by
  by_cases z3 : r.1 = 3
  · rw [if_pos z3] at h; cases h; exact ⟨z3, (by show (1 : Int) ≤ 1; omega), rfl⟩
  rw [if_neg z3] at h
  cases h
theorem kb_3 {r : Nat × Hp} {l : Int × Nat × Hp} (h : (if r.1 = 3 then some (1, (e + 1), r.2) else none : Option (Int × Nat × Hp)) = some l) : (r.1 = 3) ∧ 1 ≤ l.1 ∧ l.2.2 = r.2 := by
  by_cases z3 : r.1 = 3
  · rw [if_pos z3] at h; cases h; exact ⟨z3, (by show (1 : Int) ≤ 1; omega), rfl⟩
  rw [if_neg z3] at h
  cases h
theorem ks_12 {r : Nat × Int} {l : Int × Nat × Hp} (h : (if r.1 = 1 then some (1, (e + 1), σ) else if r.1 = 2 then some (2, (e + 1), σ) else none : Option (Int × Nat × Hp)) = some l) : 1 ≤ l.1 := by
  by_cases z1 : r.1 = 1
  · rw [if_pos z1] at h; cases h; exact (by show (1 : Int) ≤ 1; omega)
  rw [if_neg z1] at h
  by_cases z2 : r.1 = 2
  · rw [if_pos z2] at h; cases h; exact (by show (1 : Int) ≤ 2; omega)
  rw [if_neg z2] at h
  cases h
theorem ks_1 {r : Nat × Int} {l : Int × Nat × Hp} (h : (if r.1 = 1 then some (1, (e + 1), σ) else none : Option (Int × Nat × Hp)) = some l) : 1 ≤ l.1 := by
  by_cases z1 : r.1 = 1
  · rw [if_pos z1] at h; cases h; exact (by show (1 : Int) ≤ 1; omega)
  rw [if_neg z1] at h
  cases h
theorem i_at (H : J σ a n B) (d m : Int) : Okk (f_C_at σ d m) fun r => (r.1 = 0 ∨ (r.1 = 1)) ∧ Aftr σ a n B (inD d ∧ thr a d m) (fun _ b => b = hset a 163 d m) r.1 r.2.1 r.2.2 := by
  have O := op_at (e := 0) H d m
  unfold f_L_at at O
  exact inv_o (P := fun c => c = 1) (fun r l _ h => k_1 h) O
theorem i_picked (H : J σ a n B) (d k : Int) : Okk (f_C_picked σ d k) fun r => (r.1 = 0 → ∃ b, (fun v b => b = a ∧ v = if k < a.picks d then a.pick (12 * d + k) else -1) r.2 b) ∧ (r.1 ≠ 0 → ¬ (inD d ∧ 0 ≤ k)) := by
  have O := op_picked (e := 0) H d k
  unfold f_L_picked at O
  exact inv_s (fun r l _ h => ks_1 h) O
theorem i_memberAt (H : J σ a n B) (d m w : Int) : Okk (f_C_memberAt σ d m w) fun r => (r.1 = 0 → ∃ b, (fun v b => b = a ∧ v = if w = 0 then a.kind (12 * d + m) else if w = 1 then (if isP a d m ∧ 0 < m then now a d m else -1) else if w = 2 then (if isP a d m then dep a d m else -1) else if w = 3 then (if isP a d m ∧ d = 0 then a.place m else -1) else bI (seeP a d m)) r.2 b) ∧ (r.1 ≠ 0 → ¬ ((inD d ∧ thr a d m) ∧ (0 ≤ w ∧ w ≤ 4))) := by
  have O := op_memberAt (e := 0) H d m w
  unfold f_L_memberAt at O
  exact inv_s (fun r l _ h => ks_12 h) O
theorem i_cellAnew (H : J σ a n B) (hB : B ≤ 100000) (t x y m : Int) : Okk (f_C_cellAnew σ t x y m) fun r => (r.1 = 0 ∨ (r.1 = 1)) ∧ Aftr σ a n B (mem4 a t x y m) (fun v b => b = a ∧ v = @ite _ (seeP a 0 t ∧ seeP a 1 x ∧ seeP a 2 y) (Classical.propDecidable _) (val a m t x y) zNO) r.1 r.2.1 r.2.2 := by
  have O := op_cellAnew (e := 0) H hB t x y m
  unfold f_L_cellAnew at O
  exact inv_o (P := fun c => c = 1) (fun r l _ h => k_1 h) O
theorem i_from (H : J σ a n B) (hB : B ≤ 100000) (m d v : Int) : Okk (f_C_from σ m d v) fun r => (r.1 = 0 ∨ (r.1 = 1 ∨ r.1 = 2)) ∧ Aftr σ a n B (((0 ≤ m ∧ m < a.measures) ∧ inD d) ∧ (0 ≤ v ∧ v ≤ 11)) (fun w b => TKs a b ∧ w = a.md (3 * m + d)) r.1 r.2.1 r.2.2 := by
  have O := op_from (e := 0) H hB m d v
  unfold f_L_from at O
  exact inv_o (P := fun c => c = 1 ∨ c = 2) (fun r l _ h => k_12 h) O
theorem i_measure (H : J σ a n B) (hB : B ≤ 100000) (k f g : Int) : Okk (f_C_measure σ k f g) fun r => (r.1 = 0 ∨ (r.1 = 1 ∨ r.1 = 2 ∨ r.1 = 3)) ∧ Aftr σ a n B (((k = 3 → (0 ≤ f ∧ f < a.measures) ∧ (0 ≤ g ∧ g < a.measures)) ∧ (0 ≤ k ∧ k ≤ 3)) ∧ a.measures < 4) (fun v b => v = a.measures ∧ (∀ d : Int, inD d → b.many d = a.many d) ∧ b.measures = a.measures + 1 ∧ b.hits = a.hits) r.1 r.2.1 r.2.2 := by
  have O := op_measure (e := 0) H hB k f g
  unfold f_L_measure at O
  exact inv_o (P := fun c => c = 1 ∨ c = 2 ∨ c = 3) (fun r l _ h => k_123 h) O
theorem i_word (H : J σ a n B) (hB : B ≤ 100000) (w x y : Int) : Okk (f_C_word σ w x y) fun r => (r.1 = 0 ∨ (r.1 = 2 ∨ r.1 = 3)) ∧ Aftr σ a n B False (fun _ b => TKs a b) r.1 r.2.1 r.2.2 := by
  have O := op_word (e := 0) H hB w x y
  unfold f_L_word at O
  exact inv_o (P := fun c => c = 2 ∨ c = 3) (fun r l _ h => k_23 h) O
theorem i_fact (H : J σ a n B) (hB : B ≤ 100000) (t x y m v : Int) : Okk (f_C_fact σ t x y m v) fun r => (r.1 = 0 ∨ (r.1 = 1 ∨ r.1 = 2 ∨ r.1 = 3)) ∧ Aftr σ a n B False (fun w b => TKs a b ∧ 0 ≤ w) r.1 r.2.1 r.2.2 := by
  have O := op_fact (e := 0) H hB t x y m v
  unfold f_L_fact at O
  exact inv_o (P := fun c => c = 1 ∨ c = 2 ∨ c = 3) (fun r l _ h => k_123 h) O
theorem i_cell (H : J σ a n B) (hB : B ≤ 100000) (t x y m : Int) : Okk (f_C_cell σ t x y m) fun r => (r.1 = 0 ∨ (r.1 = 1)) ∧ Aftr σ a n B (mem4 a t x y m) (fun v b => ((seeP a 0 t ∧ seeP a 1 x ∧ seeP a 2 y) ∧ v = val a m t x y ∧ (((∃ k : Int, 0 ≤ k ∧ k < a.keeps ∧ a.kept k = cod t x y m) ∧ b = htA a) ∨ ((¬ ∃ k : Int, 0 ≤ k ∧ k < a.keeps ∧ a.kept k = cod t x y m) ∧ b = kpA a (cod t x y m)))) ∨ (¬ (seeP a 0 t ∧ seeP a 1 x ∧ seeP a 2 y) ∧ v = zNO ∧ b = a)) r.1 r.2.1 r.2.2 := by
  have O := op_cell (e := 0) H hB t x y m
  unfold f_L_cell at O
  exact inv_o (P := fun c => c = 1) (fun r l _ h => k_1 h) O
theorem i_begin (H : J σ a n B) : Okk (f_C_begin σ) fun r => (r.1 = 0 ∨ (r.1 = 3)) ∧ Aftr σ a n B False (fun _ b => TKs a b) r.1 0 r.2 := by
  have O := op_begin (e := 0) H
  unfold f_L_begin at O
  exact inv_b (P := fun c => c = 3) (fun r l _ h => kb_3 h) O
theorem i_end (H : J σ a n B) (hB : B ≤ 100000) {x : Int} : Okk (f_C_end σ x) fun r => (r.1 = 0 ∨ (r.1 = 3)) ∧ Aftr σ a n B False (fun v b => TKs a b ∧ 0 ≤ v) r.1 r.2.1 r.2.2 := by
  have O := op_end (e := 0) (x := x) H hB
  unfold f_L_end at O
  exact inv_o (P := fun c => c = 3) (fun r l _ h => k_3 h) O
theorem i_hide (H : J σ a n B) (hB : B ≤ 100000) (d m x : Int) (hx : x = 0 ∨ x = 1) : Okk (f_C_hide σ d m x) fun r => (r.1 = 0 ∨ (r.1 = 1 ∨ r.1 = 3)) ∧ Aftr σ a n B (((inD d ∧ thr a d m) ∧ m ≠ 0) ∧ isP a d m) (fun _ b => TKs a b) r.1 r.2.1 r.2.2 := by
  have O := op_hide (e := 0) H hB d m x hx
  unfold f_L_hide at O
  exact inv_h (P := fun c => c = 1 ∨ c = 3) (fun r l _ h => k_13 h) O
theorem i_move (H : J σ a n B) (hB : B ≤ 100000) (d m p t : Int) : Okk (f_C_move σ d m p t) fun r => (r.1 = 0 ∨ (r.1 = 1 ∨ r.1 = 3)) ∧ Aftr σ a n B False (fun v b => TKs a b ∧ -1 ≤ v) r.1 r.2.1 r.2.2 := by
  have O := op_move (e := 0) H hB d m p t
  unfold f_L_move at O
  exact inv_o (P := fun c => c = 1 ∨ c = 3) (fun r l _ h => k_13 h) O
theorem i_bridge (H : J σ a n B) (hB : B ≤ 100000) (d s : Int) : Okk (f_C_bridge σ d s) fun r => (r.1 = 0 ∨ (r.1 = 1 ∨ r.1 = 2 ∨ r.1 = 3)) ∧ Aftr σ a n B False (fun v b => TKg a b d ∧ v = a.many d) r.1 r.2.1 r.2.2 := by
  have O := op_bridge (e := 0) H hB d s
  unfold f_L_bridge at O
  exact inv_o (P := fun c => c = 1 ∨ c = 2 ∨ c = 3) (fun r l _ h => k_123 h) O
theorem i_member (H : J σ a n B) (hB : B ≤ 100000) (d p w : Int) : Okk (f_C_member σ d p w) fun r => (r.1 = 0 ∨ (r.1 = 1 ∨ r.1 = 2 ∨ r.1 = 3)) ∧ Aftr σ a n B (((inD d ∧ thr a d p) ∧ (-1 ≤ w ∧ w ≤ 1)) ∧ (isP a d p ∧ a.many d < 12)) (fun v b => TKg a b d ∧ v = a.many d) r.1 r.2.1 r.2.2 := by
  have O := op_member (e := 0) H hB d p w
  unfold f_L_member at O
  exact inv_o (P := fun c => c = 1 ∨ c = 2 ∨ c = 3) (fun r l _ h => k_123 h) O
theorem i_cross (H : J σ a n B) (hB : B ≤ 100000) (d1 d2 m : Int) : Okk (f_C_cross σ d1 d2 m) fun r => (r.1 = 0 ∨ (r.1 = 1 ∨ r.1 = 2)) ∧ Aftr σ a n B (((inD d1 ∧ inD d2) ∧ 0 ≤ m ∧ m < a.measures) ∧ d1 ≠ d2) (fun v b => b = a ∧ v = crO a m d1 d2 (a.picks d1).toNat) r.1 r.2.1 r.2.2 := by
  have O := op_cross (e := 0) H hB d1 d2 m
  unfold f_L_cross at O
  exact inv_o (P := fun c => c = 1 ∨ c = 2) (fun r l _ h => k_12 h) O
theorem i_pick (H : J σ a n B) (hB : B ≤ 100000) (d h z m top : Int) : Okk (f_C_pick σ d h z m top) fun r => (r.1 = 0 ∨ (r.1 = 1 ∨ r.1 = 2 ∨ r.1 = 3)) ∧ Aftr σ a n B (pkA1 a d h z m top ∧ pkA2 h z top ∧ (h ≠ 2 → isP a d z)) (pkT a d h z m top) r.1 r.2.1 r.2.2 := by
  have O := op_pick (e := 0) H hB d h z m top
  unfold f_L_pick at O
  exact inv_o (P := fun c => c = 1 ∨ c = 2 ∨ c = 3) (fun r l _ h => k_123 h) O
theorem i_write (H : J σ a n B) (hB : B ≤ 100000) (t x y m v h : Int) : Okk (f_C_write σ t x y m v h) fun r => (r.1 = 0 ∨ (r.1 = 1 ∨ r.1 = 2 ∨ r.1 = 3)) ∧ Aftr σ a n B False (fun w b => TKs a b ∧ 0 ≤ w) r.1 r.2.1 r.2.2 := by
  have O := op_write (e := 0) H hB t x y m v h
  unfold f_L_write at O
  exact inv_o (P := fun c => c = 1 ∨ c = 2 ∨ c = 3) (fun r l _ h => k_123 h) O
theorem i_calc (H : J σ a (n % 1048576) B) (hB : B ≤ 100000) (hN : n % 1048576 + 4 < 1048576) (d x : Int) : Okk (f_C_calculate σ n d x) fun r => (r.1 = 0 ∨ (r.1 = 1 ∨ r.1 = 2 ∨ r.1 = 3)) ∧ (r.2.2.1 = n ∨ r.2.2.1 = n + 4) ∧ ∃ a', (r.1 = 0 → TKg a a' d ∧ r.2.1 = a.many d) ∧ (r.1 ≠ 0 → a' = a) ∧ kpQ σ r.2.2.2 ∧ J r.2.2.2 a' (r.2.2.1 % 1048576) (B + 60) := by
  obtain ⟨code, v, a', n', hn, g, hT, l, el, m1, l1, l2, l3, l4, l5⟩ := op_calc (e := 0) H hB hN d x
  unfold f_L_calculate at el
  cases hx : f_C_calculate σ n d x with
  | none => rw [hx] at el; exact absurd el (by intro q; cases q)
  | some r =>
    rw [hx] at el
    refine ⟨r, rfl, ?_⟩
    have el' : (if r.1 = 0 then grd (0 ≤ (0 : Int) ∧ (0 : Int) < 1) <| some (0, r.2.2.1, 0, (hset r.2.2.2 170 0 r.2.1)) else if r.1 = 1 then some (1, r.2.2.1, (0 + 1), r.2.2.2) else if r.1 = 2 then some (2, r.2.2.1, (0 + 1), r.2.2.2) else if r.1 = 3 then some (3, r.2.2.1, (0 + 1), r.2.2.2) else none) = some l := el
    have E : (r.1 = 0 ∨ (r.1 = 1 ∨ r.1 = 2 ∨ r.1 = 3)) ∧ l.2.1 = r.2.2.1 ∧ (r.1 = 0 ↔ l.1 = 0) ∧ (r.1 = 0 → l.2.2.2 = hset r.2.2.2 170 0 r.2.1) ∧ (r.1 ≠ 0 → l.2.2.2 = r.2.2.2) := by
      by_cases z0 : r.1 = 0
      · rw [if_pos z0, grd_t (by omega)] at el'; cases el'
        exact ⟨Or.inl z0, rfl, ⟨fun _ => rfl, fun _ => z0⟩, fun _ => rfl, fun q => absurd z0 q⟩
      rw [if_neg z0] at el'
      by_cases z1 : r.1 = 1
      · rw [if_pos z1] at el'; cases el'
        exact ⟨Or.inr (Or.inl z1), rfl, ⟨fun q => absurd q z0, fun q => by cases q⟩, fun q => absurd q z0, fun _ => rfl⟩
      rw [if_neg z1] at el'
      by_cases z2 : r.1 = 2
      · rw [if_pos z2] at el'; cases el'
        exact ⟨Or.inr (Or.inr (Or.inl z2)), rfl, ⟨fun q => absurd q z0, fun q => by cases q⟩, fun q => absurd q z0, fun _ => rfl⟩
      rw [if_neg z2] at el'
      by_cases z3 : r.1 = 3
      · rw [if_pos z3] at el'; cases el'
        exact ⟨Or.inr (Or.inr (Or.inr z3)), rfl, ⟨fun q => absurd q z0, fun q => by cases q⟩, fun q => absurd q z0, fun _ => rfl⟩
      rw [if_neg z3] at el'; cases el'
    obtain ⟨E1, E2, E3, E4, E5⟩ := E
    have l1' : l.1 = code := l1
    have l2' : code = 0 → l.2.2.2 170 0 = v := l2
    have l4' : ∀ q : Nat, 129 ≤ q → (q ≤ 169 ∨ 1048576 ≤ q) → l.2.2.2 q = σ q := l4
    have l5' : IC l.2.2.2 a' (n' % 1048576) (B + 60) := l5
    have e2 : r.2.2.1 = n' := E2.symm.trans m1
    refine ⟨E1, by rw [e2]; exact hn, a', fun z => ?_, fun z => ?_, fun q q1 q2 => ?_, ?_⟩
    · have c0 : code = 0 := l1'.symm.trans (E3.mp z)
      have ev := l2' c0
      rw [E4 z, hs_eq] at ev
      rcases hT with ⟨_, t⟩ | ⟨t, _⟩
      · rw [ev]; exact t
      · omega
    · rcases hT with ⟨t, _⟩ | ⟨_, t1, _⟩
      · exact absurd (E3.mpr (l1'.trans t)) z
      · exact t1
    · by_cases z : r.1 = 0
      · have w := l4' q q1 q2
        rw [E4 z, hset_ne (by omega)] at w; exact w
      · rw [← E5 z]; exact l4' q q1 q2
    · rw [e2]
      by_cases z : r.1 = 0
      · exact inv_J g (IC_m g.1 (fun q hq => by rw [E4 z]; exact (hset_ne (by omega)).symm) (Int.le_refl _) l5')
      · rw [← E5 z]; exact inv_J g l5'
/-! the small calls -/
theorem J_129 (H : J σ a n B) {j x : Int} (hj : j = 16 ∨ j = 17) (hx : x = 0 ∨ x = 1) {s : Hp} (E : ∀ q : Nat, q ≠ 1 → q ≠ 108 → s q = σ q) (h1' : s 1 4 = (n129 a j x).asNow ∧ s 1 5 = (n129 a j x).leave) (e0 : s 108 0 = 0) (e1 : s 108 1 = σ 108 1) : J s (n129 a j x) n (B + 60) := by
  obtain ⟨W, K, V, I, VV, h1, h2⟩ := H
  obtain ⟨R, IK, IW, I9⟩ := IC_r I
  have hh := hit_e IK
  have a3 : (n129 a j x).hits = a.hits := n129_j (by omega) (by omega)
  have W' := n129_W W hj hx
  refine ⟨W', WFW_s K n129_D (n129_S hj), trivial, IC_mk (ICR_fby W (n129_S hj) n129_P (fun q hq hq1 => E q hq1 (by omega)) h1' (n129_M hj) (n129_F hj) R) (ICK_0 e0 (by rw [e1, hh.2, a3]) (frs_0 _)) (ICW_s n129_D (n129_S hj) (ICW_f (fun q hq => E q (by omega) (by omega)) IW)) ?_, trivial, by rw [a3]; exact h1, by rw [a3]; omega⟩
  unfold ic9 at I9 ⊢
  rw [E 116 (by omega) (by omega), E 117 (by omega) (by omega)]
  exact ⟨I9.1, by omega, I9.2.2⟩
theorem TKs_129 {j x : Int} (hj : j = 16 ∨ j = 17) : TKs a (n129 a j x) := TKs_s (n129_S hj) (n129_M hj).2.2.2.2 (n129_j (by omega) (by omega))
theorem i_asNow (H : J σ a n B) {x : Int} (hx : x = 0 ∨ x = 1) : Okk (f_C_asNow σ x) fun r => ∃ a', TKs a a' ∧ kpQ σ r.2 ∧ J r.2 a' n (B + 60) := by
  have W := H.1
  have R := (IC_r H.2.2.2.1).1
  have h8 : (a.asNow = 0 ∨ a.asNow = 1) ∧ (a.leave = 0 ∨ a.leave = 1) := W 8
  have e4 : σ 1 4 = a.asNow := R.2.2.2.2.1.1
  have e5 : σ 1 5 = a.leave := R.2.2.2.2.1.2
  unfold f_C_asNow
  refine ok_grd (by omega) (ok_eqb (e_K_dropAll _) (ok_grd (by omega) (ok_some ⟨n129 a 16 x, TKs_129 (Or.inl rfl), fun q q1 q2 => by dsimp only; rw [hset_ne (by omega), hset_ne (by omega)], J_129 H (Or.inl rfl) hx (fun q q1 q2 => by dsimp only; rw [hset_ne q2, hset_ne q1]) ⟨?_, ?_⟩ (by dsimp only; exact hs_eq) ?_⟩)))
  · dsimp only; rw [hset_ne (by omega), hs_eq]; exact (n129_e (by omega)).symm
  · dsimp only; rw [hset_ne (by omega), hs_nj (by omega), e5]; exact (n129_j (by omega) (by omega)).symm
  · dsimp only; rw [hs_nj (by omega), hset_ne (by omega)]
theorem i_totals (H : J σ a n B) {x : Int} (hx : x = 0 ∨ x = 1) : Okk (f_C_totals σ x) fun r => ∃ a', TKs a a' ∧ kpQ σ r.2 ∧ J r.2 a' n (B + 60) := by
  have W := H.1
  have R := (IC_r H.2.2.2.1).1
  have h8 : (a.asNow = 0 ∨ a.asNow = 1) ∧ (a.leave = 0 ∨ a.leave = 1) := W 8
  have e4 : σ 1 4 = a.asNow := R.2.2.2.2.1.1
  have e5 : σ 1 5 = a.leave := R.2.2.2.2.1.2
  unfold f_C_totals
  refine ok_grd (by omega) (ok_eqb (e_K_dropAll _) (ok_grd (by omega) (ok_some ⟨n129 a 17 x, TKs_129 (Or.inr rfl), fun q q1 q2 => by dsimp only; rw [hset_ne (by omega), hset_ne (by omega)], J_129 H (Or.inr rfl) hx (fun q q1 q2 => by dsimp only; rw [hset_ne q2, hset_ne q1]) ⟨?_, ?_⟩ (by dsimp only; exact hs_eq) ?_⟩)))
  · dsimp only; rw [hset_ne (by omega), hs_nj (by omega), e4]; exact (n129_j (by omega) (by omega)).symm
  · dsimp only; rw [hset_ne (by omega), hs_eq]; exact (n129_e (by omega)).symm
  · dsimp only; rw [hs_nj (by omega), hset_ne (by omega)]
theorem i_facts (H : J σ a n B) : f_C_facts σ = some a.facts := by
  have g : σ 101 0 = a.facts ∧ _ := (IC_r H.2.2.2.1).1.2.2.2.2.2.2 0
  rw [← g.1]; rfl
theorem i_kept (H : J σ a n B) : f_C_kept σ = some a.keeps := by
  have g := hit_e (IC_r H.2.2.2.1).2.1
  rw [← g.1]; rfl
theorem i_hits (H : J σ a n B) : f_C_hits σ = some a.hits := by
  have g := hit_e (IC_r H.2.2.2.1).2.1
  rw [← g.2]; rfl
/-- what the class does not look at -/
theorem J_h (H : J σ a n B) (h : ∀ q : Nat, q < 129 ∨ (171 ≤ q ∧ q < 1048576) → s q = σ q) : J s a n B := by
  obtain ⟨W, K, V, I, VV, h1, h2⟩ := H
  obtain ⟨R, IK, IW, I9⟩ := IC_r I
  refine ⟨W, K, trivial, IC_mk (ICR_f W (fun q hq => h q (by omega)) R) (ICK_f (fun q q1 q2 => h q (by omega)) IK) (ICW_f (fun q hq => h q (by omega)) IW) ?_, trivial, h1, h2⟩
  unfold ic9 at I9 ⊢
  rw [h 116 (by omega), h 117 (by omega)]
  exact I9
end
