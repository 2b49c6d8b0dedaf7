/-! ===== what the cells and values are, at the machine ===== -/
def vl (al : Nat → Nat) (b : Nat) (v : PV) : Value := match v.1 with
  | 0 => .int (Int32.ofInt v.2.2)
  | 1 => .long (Int64.ofInt v.2.2)
  | 2 => va_rf (rfo al v.2.2)
  | 3 => .ref b
  | _ => .ref (al v.2.2.toNat)
def PVok (n : Nat) (v : PV) : Prop := match v.1 with
  | 0 => r32 v.2.2
  | 1 => r64 v.2.2
  | 2 => fOk n v.2.2
  | 3 => True
  | t => ∃ P : Nat, v.2.2 = (P : Int) ∧ 10 ≤ t ∧ Sh n P (t - 10) v.2.1
theorem PVok.R {n k L P : Nat} : PVok n (pvR k L P) ↔ Sh n P k L := by
  show (∃ P' : Nat, (P : Int) = (P' : Int) ∧ 10 ≤ k + 10 ∧ Sh n P' (k + 10 - 10) L) ↔ _
  constructor
  · rintro ⟨P', h1, -, h2⟩
    have : P' = P := by omega
    subst this
    exact h2
  · intro h
    exact ⟨P, rfl, by omega, h⟩
theorem fOk.mono {n n' : Nat} {x : Int} (h : fOk n x) (hn : nle n n') : fOk n' x := h.imp id (fun ⟨P, h1, h2⟩ => ⟨P, h1, h2.mono hn⟩)
theorem PVok.mono {n n' : Nat} {v : PV} (h : PVok n v) (hn : nle n n') : PVok n' v := by
  obtain ⟨t, L, x⟩ := v
  match t, h with
  | 0, h => exact h
  | 1, h => exact h
  | 2, h => exact fOk.mono h hn
  | 3, _ => exact trivial
  | t + 4, h => obtain ⟨P, h1, h2, h3⟩ := h; exact ⟨P, h1, h2, h3.mono hn⟩
theorem vl_R {al : Nat → Nat} {b k L P : Nat} : vl al b (pvR k L P) = .ref (al P) := rfl
theorem rfo_congr {al al' : Nat → Nat} {n : Nat} {x : Int} (h : ∀ p, inn n p → al' p = al p) (hx : fOk n x) : rfo al' x = rfo al x := by
  rcases hx with rfl | ⟨P, rfl, hP⟩
  · rfl
  · have : ¬ ((P : Int) < 0) := by omega
    simp [rfo, this, h P hP.1]
theorem vl_congr {al al' : Nat → Nat} {b n : Nat} {v : PV} (h : ∀ p, inn n p → al' p = al p) (hv : PVok n v) : vl al' b v = vl al b v := by
  obtain ⟨t, L, x⟩ := v
  match t, hv with
  | 0, _ => rfl
  | 1, _ => rfl
  | 2, hv => exact congrArg va_rf (rfo_congr h hv)
  | 3, _ => rfl
  | t + 4, hv =>
    obtain ⟨P, h1, h2, h3⟩ := hv
    show Value.ref (al' x.toNat) = Value.ref (al x.toNat)
    have h4 : x = (P : Int) := h1
    subst h4
    rw [Int.toNat_natCast, h P h3.1]
theorem vl_b {al : Nat → Nat} {b b' : Nat} {v : PV} (h : v.1 ≠ 3) : vl al b v = vl al b' v := by
  obtain ⟨t, L, x⟩ := v
  match t, h with
  | 0, _ => rfl
  | 1, _ => rfl
  | 2, _ => rfl
  | 3, h => exact absurd rfl h
  | t + 4, _ => rfl
theorem vl_ref {al : Nat → Nat} {b n : Nat} {v : PV} (h : 2 ≤ v.1) : vl al b v = .null ∨ ∃ a, vl al b v = .ref a := by
  obtain ⟨t, L, x⟩ := v
  match t, h with
  | 0, h => exact absurd (show 2 ≤ 0 from h) (by omega)
  | 1, h => exact absurd (show 2 ≤ 1 from h) (by omega)
  | 2, _ => exact va_rf_or _
  | 3, _ => exact Or.inr ⟨_, rfl⟩
  | t + 4, _ => exact Or.inr ⟨_, rfl⟩
theorem vl_cat {al : Nat → Nat} {b : Nat} {v : PV} : (vl al b v).category = catV v := by
  obtain ⟨t, L, x⟩ := v
  match t with
  | 0 => rfl
  | 1 => rfl
  | 2 => show (va_rf (rfo al x)).category = 1; rcases va_rf_or (rfo al x) with h | ⟨a, h⟩ <;> rw [h] <;> rfl
  | 3 => rfl
  | t + 4 => show 1 = if t + 4 = 1 then 2 else 1; rw [if_neg (by omega)]
theorem vl_catS {al : Nat → Nat} {b : Nat} (st : List PV) : ((st.map (vl al b)).map fun v => v.category).sum = catS st := by
  unfold catS
  rw [List.map_map]
  congr 1
  exact List.map_congr_left fun v _ => vl_cat
/-! what cells hold; md: all is made -/
def tyF (md : Bool) (n p c : Nat) (o v : Int) : Prop := match c with
  | 0 => r32 v
  | 1 => r64 v
  | 2 => 0 ≤ v ∧ v ≤ 1
  | 3 => fOk n v
  | _ => v = p + o ∨ (md = false ∧ v = -1)
def TyM (md : Bool) (n : Nat) (σ : Hp) : Prop := (md = true → nOk n) ∧ (md = false → n ≤ 130 ∧ ∀ p, p < n → sh p = 16 → p + 13 < n) ∧ (∀ (p k j c : Nat) (o : Int), Sh n p k 0 → (zFld k)[j]? = some (c, o) → tyF md n p c o (σ p j)) ∧ (∀ (p k L : Nat) (i : Int), Sh n p k L → 12 ≤ k → tyA n p k L i (σ p i)) ∧ (md = false → ∀ (p k j : Nat) (o : Int), Sh n p k 0 → (zFld k)[j]? = some (4, o) → σ p j = p + o → 0 ≤ p + o ∧ inn n (p + o).toNat)
theorem TyM.setF {md : Bool} {n : Nat} {σ : Hp} {P k j c : Nat} {o v : Int} (hT : TyM md n σ) (hs : Sh n P k 0) (hf : (zFld k)[j]? = some (c, o)) (hv : tyF md n P c o v) (hv2 : md = false → c = 4 → 0 ≤ (P : Int) + o ∧ inn n ((P : Int) + o).toNat) : TyM md n (hset σ P j v) := by
  refine ⟨hT.1, hT.2.1, fun p k2 j2 c2 o2 h1 h2 => ?_, fun p k2 L i h1 h2 => ?_, fun e p k2 j2 o2 h1 h2 h3 => ?_⟩
  · by_cases e : p = P ∧ (j2 : Int) = j
    · obtain ⟨rfl, e2⟩ := e
      have e3 : j2 = j := by omega
      subst e3
      have e4 : k2 = k := by rw [← h1.2.1, hs.2.1]
      subst e4
      rw [hf] at h2
      cases h2
      simp only [hset, and_self, if_true]
      exact hv
    · simp only [hset, if_neg e]
      exact hT.2.2.1 p k2 j2 c2 o2 h1 h2
  · have e : p ≠ P := fun z => by
      subst z
      have := zFld_lt hf
      have : k2 = k := by rw [← h1.2.1, hs.2.1]
      omega
    rw [hset_ne e]
    exact hT.2.2.2.1 p k2 L i h1 h2
  · by_cases e2 : p = P ∧ (j2 : Int) = j
    · obtain ⟨rfl, e2⟩ := e2
      have e3 : j2 = j := by omega
      subst e3
      have e4 : k2 = k := by rw [← h1.2.1, hs.2.1]
      subst e4
      rw [hf] at h2
      cases h2
      exact hv2 e rfl
    · simp only [hset, if_neg e2] at h3
      exact hT.2.2.2.2 e p k2 j2 o2 h1 h2 h3
theorem TyM.arr {md : Bool} {n : Nat} {σ σ' : Hp} {P k L : Nat} (hT : TyM md n σ) (hs : Sh n P k L) (hk : 12 ≤ k) (ho : ∀ q, q ≠ P → σ' q = σ q) (hv : ∀ i, tyA n P k L i (σ' P i)) : TyM md n σ' := by
  refine ⟨hT.1, hT.2.1, fun p k2 j2 c2 o2 h1 h2 => ?_, fun p k2 L2 i2 h1 h2 => ?_, fun e p k2 j2 o2 h1 h2 h3 => ?_⟩
  · have e : p ≠ P := fun z => by
      subst z
      have := zFld_lt h2
      have : k2 = k := by rw [← h1.2.1, hs.2.1]
      omega
    rw [ho p e]
    exact hT.2.2.1 p k2 j2 c2 o2 h1 h2
  · by_cases e : p = P
    · subst e
      have e4 : k2 = k := by rw [← h1.2.1, hs.2.1]
      have e5 : L2 = L := by rw [← h1.2.2, hs.2.2]
      subst e4; subst e5
      exact hv i2
    · rw [ho p e]
      exact hT.2.2.2.1 p k2 L2 i2 h1 h2
  · have e1 : p ≠ P := fun z => by
      subst z
      have := zFld_lt h2
      have : k2 = k := by rw [← h1.2.1, hs.2.1]
      omega
    rw [ho p e1] at h3
    exact hT.2.2.2.2 e p k2 j2 o2 h1 h2 h3
theorem TyM.setA {md : Bool} {n : Nat} {σ : Hp} {P k L : Nat} {i v : Int} (hT : TyM md n σ) (hs : Sh n P k L) (hk : 12 ≤ k) (hv : tyA n P k L i v) : TyM md n (hset σ P i v) := by
  refine hT.arr hs hk (fun q hq => hset_ne hq) (fun i2 => ?_)
  by_cases e : i2 = i
  · subst e
    simp only [hset, and_self, if_true]
    exact hv
  · have : ¬ (P = P ∧ i2 = i) := fun z => e z.2
    show tyA n P k L i2 (if P = P ∧ i2 = i then v else σ P i2)
    rw [if_neg this]
    exact hT.2.2.2.1 P k L i2 hs hk
/-- where a fixed field points -/
theorem tgt_of {p k j k' L' P' : Nat} {o : Int} (hp : p < 130) (h0 : sh p = k) (h1 : (zFld k)[j]? = some (4, o)) (h2 : (zTgt k)[j]? = some (k', L')) (hP : (P' : Int) = p + o) : sh P' = k' ∧ ln P' = L' ∧ P' < 130 := by
  have h := Sh.tgt (n := 171) ⟨0, rfl⟩ (⟨nOk.in ⟨0, rfl⟩ hp, h0, rfl⟩ : Sh 171 p k (ln p)) h1 h2 hP
  exact ⟨h.2.1, h.2.2, by have := h.1; unfold inn at this; omega⟩
theorem TyM.tgt {md : Bool} {n : Nat} {σ : Hp} {p k j k' L' P' : Nat} {o : Int} (hT : TyM md n σ) (h : Sh n p k 0) (h1 : (zFld k)[j]? = some (4, o)) (h2 : (zTgt k)[j]? = some (k', L')) (hP : (P' : Int) = p + o) (hm : md = true ∨ σ p j = P') : Sh n P' k' L' ∧ σ p j = P' := by
  have h9 := hT.2.2.1 p k j 4 o h h1
  cases md with
  | true =>
    have hs := h.tgt (hT.1 rfl) h1 h2 hP
    rcases h9 with h9 | ⟨h9, -⟩
    · exact ⟨hs, by rw [h9, hP]⟩
    · cases h9
  | false =>
    rcases hm with hm | hm
    · cases hm
    · have hn := (hT.2.1 rfl).1
      have ht := tgt_of (Nat.lt_of_lt_of_le (inn_lt h.1 (by omega)) hn) h.2.1 h1 h2 hP
      have := hT.2.2.2.2 rfl p k j o h h1 (by rw [hm, hP])
      have e : ((p : Int) + o).toNat = P' := by omega
      exact ⟨⟨by rw [← e]; exact this.2, ht.1, ht.2.1⟩, hm⟩
/-! the locals -/
def LH (al : Nat → Nat) (b : Nat) (la : Array Slot) (nL : Nat) (L : Lc) : Prop := L.length = nL ∧ la.size = nL ∧ lv_wf la ∧ ∀ (i : Nat) (v : PV), L[i]? = some (some v) → la[i]? = some (.val (vl al b v))
def asc (al : Nat → Nat) (b : Nat) (L : Lc) : List (Nat × Value) := (List.range L.length).filterMap fun i => match L[i]? with
  | some (some v) => some (i, vl al b v)
  | _ => none
theorem asc_mem {al : Nat → Nat} {b : Nat} {L : Lc} {q : Nat × Value} : q ∈ asc al b L ↔ ∃ v, L[q.1]? = some (some v) ∧ q.2 = vl al b v := by
  unfold asc
  rw [List.mem_filterMap]
  constructor
  · rintro ⟨i, -, h⟩
    split at h
    · rename_i v hv
      cases h
      exact ⟨v, hv, rfl⟩
    · cases h
  · rintro ⟨v, hv, h2⟩
    refine ⟨q.1, List.mem_range.mpr (List.getElem?_eq_some_iff.mp hv).1, ?_⟩
    rw [hv]
    simp only [← h2]
theorem LH.has {al : Nat → Nat} {b nL : Nat} {la : Array Slot} {L : Lc} (h : LH al b la nL L) : lv_has la nL (asc al b L) :=
  ⟨h.2.1, h.2.2.1, fun q hq => by obtain ⟨v, h1, h2⟩ := asc_mem.mp hq; rw [h2]; exact h.2.2.2 _ _ h1⟩
theorem clr_get {L : Lc} {i j : Nat} {v : PV} (h : (clr L i)[j]? = some (some v)) : L[j]? = some (some v) ∧ ¬ (j + 1 = i ∧ v.1 = 1) := by
  unfold clr at h
  split at h
  · exact ⟨h, fun z => by omega⟩
  · rename_i i' k
    split at h
    · rename_i a b' h9
      rw [List.getElem?_set] at h
      by_cases e : k = j
      · subst e
        rw [if_pos rfl] at h
        split at h <;> cases h
      · rw [if_neg e] at h
        exact ⟨h, fun z => e (by omega)⟩
    · rename_i h9
      refine ⟨h, fun z => ?_⟩
      have e : k = j := by omega
      subst e
      obtain ⟨t, L', x⟩ := v
      have : t = 1 := z.2
      subst this
      exact h9 _ _ h
theorem clr_len (L : Lc) (i : Nat) : (clr L i).length = L.length := by
  unfold clr
  split
  · rfl
  · split
    · simp
    · rfl
theorem sto1_get {L : Lc} {i j : Nat} {v u : PV} (hi : i < L.length) (h : (sto1 L i v)[j]? = some (some u)) : (j = i ∧ u = v) ∨ (j ≠ i ∧ L[j]? = some (some u) ∧ ¬ (j + 1 = i ∧ u.1 = 1)) := by
  unfold sto1 at h
  rw [List.getElem?_set] at h
  by_cases e : i = j
  · subst e
    rw [if_pos rfl, if_pos (by rw [clr_len]; exact hi)] at h
    cases h
    exact Or.inl ⟨rfl, rfl⟩
  · rw [if_neg e] at h
    exact Or.inr ⟨fun z => e z.symm, clr_get h⟩
theorem sto2_get {L : Lc} {i j : Nat} {v u : PV} (hi : i + 1 < L.length) (h : (sto2 L i v)[j]? = some (some u)) : (j = i ∧ u = v) ∨ (j ≠ i ∧ j ≠ i + 1 ∧ L[j]? = some (some u) ∧ ¬ (j + 1 = i ∧ u.1 = 1)) := by
  unfold sto2 at h
  rw [List.getElem?_set] at h
  by_cases e : i + 1 = j
  · subst e
    rw [if_pos rfl] at h
    split at h <;> cases h
  · rw [if_neg e] at h
    rcases sto1_get (by omega) h with h | ⟨h1, h2, h3⟩
    · exact Or.inl h
    · exact Or.inr ⟨h1, fun z => e z.symm, h2, h3⟩
theorem LH.put1 {al : Nat → Nat} {b nL i : Nat} {la : Array Slot} {L : Lc} {v : PV} (h0 : L.length = nL) (hi : i < nL) (h : lv_has la nL ((i, vl al b v) :: (asc al b L).filter (fun q => !(q.1 == i) && !(q.1 + 1 == i && q.2.category == 2)))) : LH al b la nL (sto1 L i v) := by
  refine ⟨by unfold sto1; rw [List.length_set, clr_len, h0], h.1, h.2.1, fun j u hj => ?_⟩
  rcases sto1_get (by omega) hj with ⟨rfl, rfl⟩ | ⟨h1, h2, h3⟩
  · exact h.2.2 _ List.mem_cons_self
  · refine h.2.2 (j, vl al b u) (List.mem_cons_of_mem _ (List.mem_filter.mpr ⟨asc_mem.mpr ⟨u, h2, rfl⟩, ?_⟩))
    have e1 : (j == i) = false := by simp [h1]
    have e2 : (j + 1 == i && (vl al b u).category == 2) = false := by
      rw [vl_cat]
      by_cases e : j + 1 = i
      · have : ¬ u.1 = 1 := fun z => h3 ⟨e, z⟩
        simp [catV, this]
      · simp [e]
    simp [e1, e2]
theorem LH.put2 {al : Nat → Nat} {b nL i : Nat} {la : Array Slot} {L : Lc} {v : PV} (h0 : L.length = nL) (hi : i + 1 < nL) (h : lv_has la nL ((i, vl al b v) :: (asc al b L).filter (fun q => !(q.1 == i) && (!(q.1 == i + 1) && !(q.1 + 1 == i && q.2.category == 2))))) : LH al b la nL (sto2 L i v) := by
  refine ⟨by unfold sto2; rw [List.length_set, List.length_set, clr_len, h0], h.1, h.2.1, fun j u hj => ?_⟩
  rcases sto2_get (by omega) hj with ⟨rfl, rfl⟩ | ⟨h1, h12, h2, h3⟩
  · exact h.2.2 _ List.mem_cons_self
  · refine h.2.2 (j, vl al b u) (List.mem_cons_of_mem _ (List.mem_filter.mpr ⟨asc_mem.mpr ⟨u, h2, rfl⟩, ?_⟩))
    have e1 : (j == i) = false := by simp [h1]
    have e3 : (j == i + 1) = false := by simp [h12]
    have e2 : (j + 1 == i && (vl al b u).category == 2) = false := by
      rw [vl_cat]
      by_cases e : j + 1 = i
      · have : ¬ u.1 = 1 := fun z => h3 ⟨e, z⟩
        simp [catV, this]
      · simp [e]
    simp [e1, e2, e3]
theorem LH.congr {al al' : Nat → Nat} {b nL n : Nat} {la : Array Slot} {L : Lc} (h : LH al b la nL L) (ha : ∀ p, inn n p → al' p = al p) (hL : ∀ (i : Nat) (v : PV), L[i]? = some (some v) → PVok n v) : LH al' b la nL L :=
  ⟨h.1, h.2.1, h.2.2.1, fun i v hv => by rw [vl_congr ha (hL i v hv)]; exact h.2.2.2 i v hv⟩
/-! how many slots the cells have -/
def zSz (p : Nat) : Nat := if sh p < 12 then (zFld (sh p)).length else ln p
def Sl : Nat → Nat
  | 0 => 0
  | n + 1 => Sl n + zSz n
theorem Sl_mono {n m : Nat} (h : n ≤ m) : Sl n ≤ Sl m := by
  induction h with
  | refl => exact Nat.le_refl _
  | step _ ih => exact Nat.le_trans ih (Nat.le_add_right _ _)
def SL (n : Nat) : Nat := Sl (n % 1048576) + 60 * (n / 1048576)
theorem SL_mono {n m : Nat} (h : nle n m) : SL n ≤ SL m := by
  unfold SL
  have := Sl_mono h.1
  have := h.2
  omega
/-- how many cells there are -/
def cw (n : Nat) : Nat := (if n % 1048576 ≤ 130 then n % 1048576 else if n % 1048576 ≤ 171 then 130 else n % 1048576 - 41) + n / 1048576
theorem cw_mono {n m : Nat} (h : nle n m) : cw n ≤ cw m := by
  unfold cw
  have := h.1
  have := h.2
  split <;> split <;> (try split) <;> (try split) <;> omega
def cn (w w0 : Wd) : Nat := (cw w.2.1 + w.2.2.1) - (cw w0.2.1 + w0.2.2.1)
def sn (w w0 : Wd) : Nat := (SL w.2.1 + 6 * w.2.2.1) - (SL w0.2.1 + 6 * w0.2.2.1)
/-! a place in a method's walk -/
abbrev Act : Type := Program × Launch × Env × Room × State × MethodId × Array Value × List Frame × Method × Code × va_G × Cids × (Nat → Prop) × (State → Prop)
/-- the method, its calls' depth, the world at its entry and where its cells lay, at its end, the script -/
abbrev Bg : Type := Mt × Nat × Wd × (Nat → Nat) × Wd × Xs × Nat
def Cx (Z : Act) (B : Bg) : Prop := match Z, B with
  | (p, l, _, R, s, m, args, _, meth, c, D, cs, A, _), (M, d, w0, _, o, X, b) =>
    (p.tables.exec = Jvm.exec ∧ c.code = mB M ∧ c.maxLocals = mL M ∧ s.vm.findClass (zOwn (mC M)) = some m.cls) ∧ (∀ w ∈ lw_good, w.before args s = true) ∧ (∀ q : Nat, s.heap.size ≤ q → A q) ∧ (meth.locks = false ∧ l.stackTraces = false ∧ meth.sig.returnType = mR M ∧ ((mY M).name = "<init>" → meth.name = "<init>") ∧ c.exceptionTable.toList = tableOf (mH M)) ∧ MF D cs A s s.heap ∧
    (d + 8 ≤ R.frames ∧ 60 * d + 150 ≤ R.locals ∧ cn o w0 ≤ R.cells ∧ sn o w0 ≤ R.slots) ∧ (∀ q, X = some q → va_X b q.1 q.2 s s.heap ∧ b < s.heap.size ∧ ¬ A b)
def Hy (Z : Act) (B : Bg) (al : Nat → Nat) (H : Heap) (locs : List Loc) (la : Array Slot) (L : Lc) (st : List PV) (w : Wd) : Prop := match Z, B with
  | (_, _, _, _, s, _, _, _, _, _, D, cs, A, _), (M, _, w0, al0, o, _, b) =>
    (le w0 w ∧ le w o) ∧ TyM w.1 w.2.1 w.2.2.2 ∧ (∀ v ∈ st, PVok w.2.1 v) ∧ (∀ (i : Nat) (v : PV), L[i]? = some (some v) → PVok w.2.1 v) ∧ (∀ p, inn w0.2.1 p → al p = al0 p) ∧ LH al b la (mL M) L ∧ va_P D vwCl (wsv al cs w.2.2.2 w.2.1) H ∧ va_D A (wsv al cs w.2.2.2 w.2.1) ∧ va_S A s.heap H locs
def GX (Z : Act) (B : Bg) (pc : Nat) (L : Lc) (st : List PV) (w : Wd) : Prop := match Z, B with
  | (p, l, e, R, s, m, args, below, meth, c, _, _, _, Q), (_, _, w0, _, _, _, b) =>
    ∀ (al : Nat → Nat) (H : Heap) (locs : List Loc) (la : Array Slot), Hy Z B al H locs la L st w → W p l e R s m args below meth c H locs (cn w w0) (sn w w0) Q (F0 m pc la (st.map (vl al b)))
theorem Hy.st {Z : Act} {B : Bg} {al : Nat → Nat} {H : Heap} {locs : List Loc} {la : Array Slot} {L : Lc} {st st' : List PV} {w : Wd} (h : Hy Z B al H locs la L st w) (h2 : ∀ v ∈ st', PVok w.2.1 v) : Hy Z B al H locs la L st' w := by
  obtain ⟨p, l, e, R, s, m, args, below, meth, c, D, cs, A, Q⟩ := Z
  obtain ⟨M, d, w0, al0, o, X, b⟩ := B
  exact ⟨h.1, h.2.1, h2, h.2.2.2⟩
theorem all_cons {P : PV → Prop} {v : PV} {st : List PV} (h : P v) (h2 : ∀ u ∈ st, P u) : ∀ u ∈ v :: st, P u := fun u hu => by
  rcases List.mem_cons.mp hu with rfl | hu
  · exact h
  · exact h2 u hu
theorem all_tl {P : PV → Prop} {v : PV} {st : List PV} (h : ∀ u ∈ v :: st, P u) : ∀ u ∈ st, P u := fun u hu => h u (List.mem_cons_of_mem _ hu)
theorem all_hd {P : PV → Prop} {v : PV} {st : List PV} (h : ∀ u ∈ v :: st, P u) : P v := h v List.mem_cons_self
