/-! ===== the world: every cell of the two systems, by its pointer (a number); what it holds, as Ints ===== -/
abbrev Hp : Type := Nat → Int → Int
def hset (σ : Hp) (p : Nat) (i v : Int) : Hp := fun q j => if q = p ∧ j = i then v else σ q j
theorem hset_ne {σ : Hp} {p q : Nat} {i v : Int} (h : q ≠ p) : hset σ p i v q = σ q := by funext j; simp [hset, h]
abbrev Cids : Type := ClassId × ClassId × ClassId × ClassId × ClassId
def rfo (al : Nat → Nat) (x : Int) : Option Nat := if x < 0 then none else some (al x.toNat)
def fvl (al : Nat → Nat) (c : Nat) (x : Int) : Value := match c with
  | 0 => .int (Int32.ofInt x)
  | 1 => .long (Int64.ofInt x)
  | 2 => .int (Int32.ofInt x)
  | _ => va_rf (rfo al x)
def flds (k : Nat) (al : Nat → Nat) (u : Int → Int) : List Value := (List.range (zFld k).length).map fun j => fvl al ((zFld k).getD j (0, 0)).1 (u j)
def cel (al : Nat → Nat) (cs : Cids) (u : Int → Int) (p : Nat) : va_E :=
  if sh p < 12 then .inr (sh p, flds (sh p) al u)
  else if sh p = 13 then .inl (cs.2.1, ln p, .inr (.inl fun j => Int64.ofInt (u j)))
  else if sh p = 14 then .inl (cs.2.2.1, ln p, .inl fun j => Int32.ofInt (u j))
  else if sh p = 15 then .inl (cs.2.2.2.1, ln p, .inr (.inr (.inr (.inr fun j => rfo al (u j)))))
  else if sh p = 16 then .inl (cs.2.2.2.2, ln p, .inr (.inr (.inr (.inr fun j => rfo al (u j)))))
  else .inl (cs.1, ln p, .inl fun j => Int32.ofInt (u j))
/-- the cells that there are, in a row -/
def ptrs (n : Nat) : List Nat := ((List.range (n % 1048576)).filter fun p => decide (p < 130 ∨ 171 ≤ p)) ++ (List.range (n / 1048576)).map fun i => 1048576 + i
theorem ptrs_mem {n p : Nat} : p ∈ ptrs n ↔ inn n p := by
  unfold ptrs inn
  rw [List.mem_append, List.mem_filter, List.mem_range, List.mem_map]
  constructor
  · rintro (⟨h1, h2⟩ | ⟨i, h1, rfl⟩)
    · exact Or.inl ⟨h1, of_decide_eq_true h2⟩
    · exact Or.inr ⟨by omega, by have := List.mem_range.mp h1; omega⟩
  · rintro (⟨h1, h2⟩ | ⟨h1, h2⟩)
    · exact Or.inl ⟨h1, decide_eq_true h2⟩
    · exact Or.inr ⟨p - 1048576, List.mem_range.mpr (by omega), by omega⟩
theorem ptrs_nd (n : Nat) : (ptrs n).Nodup := by
  unfold ptrs
  refine List.nodup_append.mpr ⟨List.nodup_range.sublist List.filter_sublist, ?_, ?_⟩
  · refine List.pairwise_map.mpr ?_
    exact List.nodup_range.imp (fun h => by omega)
  · intro a ha b hb
    have h1 := List.mem_range.mp (List.mem_filter.mp ha).1
    obtain ⟨i, -, rfl⟩ := List.mem_map.mp hb
    have : n % 1048576 < 1048576 := Nat.mod_lt _ (by omega)
    omega
/-- the place of the cell p in that row -/
def ix (n p : Nat) : Nat := (ptrs n).idxOf p
theorem ix_get {n p : Nat} (h : inn n p) : (ptrs n)[ix n p]? = some p := by
  have h1 := List.idxOf_lt_length_of_mem (ptrs_mem.mpr h)
  have h2 := List.getElem_idxOf h1
  exact List.getElem?_eq_some_iff.mpr ⟨h1, h2⟩
theorem ix_of {n k p : Nat} (h : (ptrs n)[k]? = some p) : inn n p ∧ k = ix n p := by
  obtain ⟨h1, h2⟩ := List.getElem?_eq_some_iff.mp h
  refine ⟨ptrs_mem.mp (by rw [← h2]; exact List.getElem_mem h1), ?_⟩
  have := (ptrs_nd n).idxOf_getElem k h1
  unfold ix
  rw [← h2]
  exact this.symm
theorem ix_inj {n p q : Nat} (h : inn n p) (g : inn n q) (e : ix n p = ix n q) : p = q := by
  have h1 := ix_get h
  rw [e, ix_get g] at h1
  exact (Option.some.inj h1).symm
def wsv (al : Nat → Nat) (cs : Cids) (σ : Hp) (n : Nat) : va_W := (ptrs n).map fun p => (al p, cel al cs (σ p) p)
theorem wsv_get {al : Nat → Nat} {cs : Cids} {σ : Hp} {n p : Nat} (h : inn n p) : (wsv al cs σ n)[ix n p]? = some (al p, cel al cs (σ p) p) := by
  unfold wsv
  rw [List.getElem?_map, ix_get h]
  rfl
theorem wsv_of {al : Nat → Nat} {cs : Cids} {σ : Hp} {n k : Nat} {x : Nat × va_E} (h : (wsv al cs σ n)[k]? = some x) : ∃ p, inn n p ∧ k = ix n p ∧ x = (al p, cel al cs (σ p) p) := by
  unfold wsv at h
  rw [List.getElem?_map] at h
  obtain ⟨p, h1, h2⟩ := Option.map_eq_some_iff.mp h
  exact ⟨p, (ix_of h1).1, (ix_of h1).2, h2.symm⟩
theorem wsv_set {al : Nat → Nat} {cs : Cids} {σ σ' : Hp} {n p : Nat} {e : va_E} (hp : inn n p) (he : cel al cs (σ' p) p = e) (ho : ∀ q, q ≠ p → σ' q = σ q) : (wsv al cs σ n).set (ix n p) (al p, e) = wsv al cs σ' n := by
  apply List.ext_getElem?
  intro k
  rw [List.getElem?_set]
  have hl : ∀ σ1 : Hp, (wsv al cs σ1 n).length = (ptrs n).length := fun σ1 => by simp [wsv]
  by_cases hk : k < (ptrs n).length
  · obtain ⟨q, hq⟩ : ∃ q, (ptrs n)[k]? = some q := ⟨_, List.getElem?_eq_getElem hk⟩
    obtain ⟨q1, rfl⟩ := ix_of hq
    rw [wsv_get q1, wsv_get q1]
    by_cases h : p = q
    · subst h
      rw [if_pos rfl, if_pos (by rw [hl]; exact hk), he]
    · rw [if_neg (fun z => h (ix_inj hp q1 z)), ho q (fun z => h z.symm)]
  · have h1 : ∀ σ1 : Hp, (wsv al cs σ1 n)[k]? = none := fun σ1 => List.getElem?_eq_none (by rw [hl]; omega)
    rw [h1, h1]
    split
    · rw [if_neg (by rw [hl]; omega)]
    · rfl
/-- the world, cell by cell -/
theorem wsv_P {D : va_G} {al : Nat → Nat} {cs : Cids} {σ : Hp} {n : Nat} {H : Heap} : va_P D vwCl (wsv al cs σ n) H ↔ ∀ p, inn n p → va_at D vwCl (al p, cel al cs (σ p) p) H :=
  ⟨fun h p hp => h _ _ (wsv_get hp), fun h k x hx => by obtain ⟨p, hp, -, rfl⟩ := wsv_of hx; exact h p hp⟩
theorem wsv_D {A : Nat → Prop} {al : Nat → Nat} {cs : Cids} {σ : Hp} {n : Nat} : va_D A (wsv al cs σ n) ↔ (∀ p q, inn n p → inn n q → al p = al q → p = q) ∧ ∀ p, inn n p → A (al p) := by
  refine ⟨fun h => ⟨fun p q hp hq e => ix_inj hp hq (h.1 _ _ _ _ (wsv_get hp) (wsv_get hq) e), fun p hp => h.2 _ _ (wsv_get hp)⟩, fun h => ⟨fun i j x y hi hj e => ?_, fun k x hx => ?_⟩⟩
  · obtain ⟨p, hp, rfl, rfl⟩ := wsv_of hi
    obtain ⟨q, hq, rfl, rfl⟩ := wsv_of hj
    rw [h.1 p q hp hq e]
  · obtain ⟨p, hp, rfl, rfl⟩ := wsv_of hx
    exact h.2 p hp
theorem flds_len (k : Nat) (al : Nat → Nat) (u : Int → Int) : (flds k al u).length = (zFld k).length := by simp [flds]
theorem flds_get {k : Nat} {al : Nat → Nat} {u : Int → Int} {j c : Nat} {o : Int} (h : (zFld k)[j]? = some (c, o)) : (flds k al u)[j]? = some (fvl al c (u j)) := by
  have hj : j < (zFld k).length := (List.getElem?_eq_some_iff.mp h).1
  unfold flds
  rw [List.getElem?_map, List.getElem?_range hj, Option.map_some]
  rw [List.getD_eq_getElem?_getD, h]
  rfl
theorem flds_set {k : Nat} {al : Nat → Nat} {σ : Hp} {p j c : Nat} {o v : Int} (h : (zFld k)[j]? = some (c, o)) : flds k al (hset σ p j v p) = (flds k al (σ p)).set j (fvl al c v) := by
  have hj : j < (zFld k).length := (List.getElem?_eq_some_iff.mp h).1
  apply List.ext_getElem?
  intro q
  rw [List.getElem?_set, flds_len]
  by_cases hq : q < (zFld k).length
  · obtain ⟨x, hx⟩ : ∃ x, (zFld k)[q]? = some x := ⟨_, List.getElem?_eq_getElem hq⟩
    rw [flds_get (c := x.1) (o := x.2) hx, flds_get (c := x.1) (o := x.2) hx]
    by_cases e : j = q
    · subst e
      rw [if_pos rfl, if_pos hj]
      rw [h] at hx
      cases hx
      simp [hset]
    · rw [if_neg e]
      have e2 : ¬ ((q : Int) = (j : Int)) := by omega
      simp [hset, e2]
  · have h1 : ∀ u : Int → Int, (flds k al u)[q]? = none := fun u => List.getElem?_eq_none (by rw [flds_len]; omega)
    rw [h1, h1]
    split
    · omega
    · rfl
/-- what each cell may hold -/
def fOk (n : Nat) (v : Int) : Prop := v = -1 ∨ ∃ P : Nat, v = (P : Int) ∧ Sh n P 2 0
def tyC (n p c : Nat) (o v : Int) : Prop := match c with
  | 0 => r32 v
  | 1 => r64 v
  | 2 => 0 ≤ v ∧ v ≤ 1
  | 3 => fOk n v
  | _ => v = p + o
def tyA (n p k L : Nat) (i v : Int) : Prop := match k with
  | 13 => r64 v
  | 14 => 0 ≤ v ∧ v ≤ 1
  | 15 => fOk n v
  | 16 => 0 ≤ i → i < L → v = p + 1 + i
  | _ => r32 v
def Ty (n : Nat) (σ : Hp) : Prop := nOk n ∧ (∀ (p k j c : Nat) (o : Int), Sh n p k 0 → (zFld k)[j]? = some (c, o) → tyC n p c o (σ p j)) ∧ ∀ (p k L : Nat) (i : Int), Sh n p k L → 12 ≤ k → tyA n p k L i (σ p i)
theorem zFld_lt {k j c : Nat} {o : Int} (h : (zFld k)[j]? = some (c, o)) : k < 12 := by
  match k with
  | 0 | 1 | 2 | 3 | 4 | 5 | 6 | 7 | 8 | 9 | 10 => omega
  | k + 11 => simp [zFld] at h
theorem Ty.setF {n : Nat} {σ : Hp} {P k j c : Nat} {o v : Int} (hT : Ty n σ) (hs : Sh n P k 0) (hf : (zFld k)[j]? = some (c, o)) (hv : tyC n P c o v) : Ty n (hset σ P j v) := by
  refine ⟨hT.1, fun p k2 j2 c2 o2 h1 h2 => ?_, fun p k2 L i h1 h2 => ?_⟩
  · by_cases e : p = P ∧ (j2 : Int) = j
    · obtain ⟨rfl, e2⟩ := e
      have e3 : j2 = j := by omega
      subst e3
      have e4 : k2 = k := by rw [← h1.2.1, hs.2.1]
      subst e4
      rw [hf] at h2
      cases h2
      simp only [hset, and_self, if_true]
      exact hv
    · simp only [hset, if_neg e]
      exact hT.2.1 p k2 j2 c2 o2 h1 h2
  · have e : p ≠ P := fun z => by
      subst z
      have := zFld_lt hf
      have : k2 = k := by rw [← h1.2.1, hs.2.1]
      omega
    rw [hset_ne e]
    exact hT.2.2 p k2 L i h1 h2
theorem Ty.setA {n : Nat} {σ : Hp} {P k L : Nat} {i v : Int} (hT : Ty n σ) (hs : Sh n P k L) (hk : 12 ≤ k) (hv : tyA n P k L i v) : Ty n (hset σ P i v) := by
  refine ⟨hT.1, fun p k2 j2 c2 o2 h1 h2 => ?_, fun p k2 L2 i2 h1 h2 => ?_⟩
  · have e : p ≠ P := fun z => by
      subst z
      have := zFld_lt h2
      have : k2 = k := by rw [← h1.2.1, hs.2.1]
      omega
    rw [hset_ne e]
    exact hT.2.1 p k2 j2 c2 o2 h1 h2
  · by_cases e : p = P ∧ i2 = i
    · obtain ⟨rfl, rfl⟩ := e
      have e4 : k2 = k := by rw [← h1.2.1, hs.2.1]
      have e5 : L2 = L := by rw [← h1.2.2, hs.2.2]
      subst e4; subst e5
      simp only [hset, and_self, if_true]
      exact hv
    · simp only [hset, if_neg e]
      exact hT.2.2 p k2 L2 i2 h1 h2
/-! ===== the tables' words ===== -/
def lw_good : List Cond := lw_tbl.filter goodWord
theorem good_in {w : Cond} (h : w ∈ lw_good) : GoodIn lw_good [w] := fun w' h' => by
  rw [List.mem_singleton.mp h']
  exact ⟨h, good_of_word (List.mem_filter.mp h).2⟩
def wsG (w : Cond) : List Cond := w :: lw_good
theorem wsG_good {w w' : Cond} (h : w' ∈ lw_good) : GoodIn (wsG w) (wsG w') := fun x hx => by
  rcases List.mem_cons.mp hx with rfl | hx
  · exact ⟨List.mem_cons_of_mem _ h, good_of_word (List.mem_filter.mp h).2⟩
  · exact ⟨List.mem_cons_of_mem _ hx, good_of_word (List.mem_filter.mp hx).2⟩
theorem cls_ok : ∀ (k : Nat) (q : vw_C), vwCl[k]? = some q → ((u_ws q.1 q.2.1 q.2.2).all fun w => decide (w ∈ lw_good)) = true := by
  intro k q h
  match k with
  | 0 => cases h; decide +kernel
  | 1 => cases h; decide +kernel
  | 2 => cases h; decide +kernel
  | 3 => cases h; decide +kernel
  | 4 => cases h; decide +kernel
  | 5 => cases h; decide +kernel
  | 6 => cases h; decide +kernel
  | 7 => cases h; decide +kernel
  | 8 => cases h; decide +kernel
  | 9 => cases h; decide +kernel
  | 10 => cases h; decide +kernel
  | k + 11 => simp [vwCl] at h
theorem cls_in {k : Nat} {q : vw_C} (h : vwCl[k]? = some q) : ∀ w ∈ u_ws q.1 q.2.1 q.2.2, w ∈ lw_good := fun w hw => by
  have h1 := List.all_eq_true.mp (cls_ok k q h) w hw
  exact of_decide_eq_true h1
def zTy (k j : Nat) : FieldType := match k with
  | 0 => tyX0 j
  | 1 => tyX1 j
  | 2 => tyX2 j
  | 3 => tyX3 j
  | 4 => tyX4 j
  | 5 => tyX5 j
  | 6 => tyX6 j
  | 7 => tyX7 j
  | 8 => tyX8 j
  | 9 => tyX9 j
  | 10 => tyX10 j
  | _ => tyX11 j
theorem cls_ty {k : Nat} {q : vw_C} (h : vwCl[k]? = some q) : (∀ j, j < q.2.2 → parseFieldDescriptor (q.2.1 j).2.2.1 = some (zTy k j)) ∧ (∀ a, a < q.2.2 → ∀ b, b < q.2.2 → a ≠ b → (q.2.1 a).2.1 ≠ (q.2.1 b).2.1) ∧ (zFld k).length = q.2.2 := by
  match k with
  | 0 => cases h; exact ⟨tyX0_ok, nmX0, rfl⟩
  | 1 => cases h; exact ⟨tyX1_ok, nmX1, rfl⟩
  | 2 => cases h; exact ⟨tyX2_ok, nmX2, rfl⟩
  | 3 => cases h; exact ⟨tyX3_ok, nmX3, rfl⟩
  | 4 => cases h; exact ⟨tyX4_ok, nmX4, rfl⟩
  | 5 => cases h; exact ⟨tyX5_ok, nmX5, rfl⟩
  | 6 => cases h; exact ⟨tyX6_ok, nmX6, rfl⟩
  | 7 => cases h; exact ⟨tyX7_ok, nmX7, rfl⟩
  | 8 => cases h; exact ⟨tyX8_ok, nmX8, rfl⟩
  | 9 => cases h; exact ⟨tyX9_ok, nmX9, rfl⟩
  | 10 => cases h; exact ⟨tyX10_ok, nmX10, rfl⟩
  | k + 11 => simp [vwCl] at h
