/-! ===== new int[13][144] ===== -/
theorem vr_outer (c : ClassId) (N h0 : Nat) : ∀ i : Nat, Jvm.Free.Multi.outerC c N h0 i = arrV c N (fun j => va_rf (if j < i then some (h0 + 1 + j) else none))
  | 0 => by
    show ({ cls := c, slots := Array.replicate N .null, vm := .none } : Cell) = _
    rw [arrV_new]
    refine congrArg (arrV c N) (funext fun j => ?_)
    simp [va_rf]
  | i + 1 => by
    show (Jvm.Free.Multi.outerC c N h0 i).setSlot i (.ref (h0 + 1 + i)) = _
    rw [vr_outer c N h0 i, arrV_store]
    refine congrArg (arrV c N) (funext fun j => ?_)
    by_cases e : j = i
    · subst e
      simp [updV, va_rf]
    · by_cases h : j < i
      · simp [updV, e, h, Nat.lt_succ_of_lt h]
      · simp [updV, e, h, show ¬ j < i + 1 by omega]
def alFrom (al : Nat → Nat) (n z : Nat) : Nat → Nat := fun p => if p < n then al p else z + (p - n)
theorem alFrom_lt {al : Nat → Nat} {n z : Nat} : ∀ p, p < n → alFrom al n z p = al p := fun p hp => by unfold alFrom; rw [if_pos hp]
theorem alFrom_ge {al : Nat → Nat} {n z k : Nat} : alFrom al n z (n + k) = z + k := by unfold alFrom; rw [if_neg (by omega)]; omega
/-- m more cells, in a row behind the heap's end -/
theorem growM {md : Bool} {n m : Nat} {σ σ' : Hp} {al : Nat → Nat} {cs : Cids} {D : va_G} {H H1 : Heap} {A : Nat → Prop} (hT : TyM md n σ) (ho : ∀ p, p < n → σ' p = σ p) (hP : va_P D vwCl (wsv al cs σ n) H) (hD : va_D A (wsv al cs σ n)) (hk : ∀ q, q < H.size → H1[q]? = H[q]?) (hA : ∀ q, H.size ≤ q → A q)
    (hc : ∀ k, k < m → va_at D vwCl (H.size + k, cel (alFrom al n H.size) cs (σ' (n + k)) (n + k)) H1) : va_P D vwCl (wsv (alFrom al n H.size) cs σ' (n + m)) H1 ∧ va_D A (wsv (alFrom al n H.size) cs σ' (n + m)) := by
  have hlt : ∀ p, p < n → al p < H.size := fun p hp => vx_lt hP (wsv_get hp)
  have key : ∀ (k : Nat) (x : Nat × va_E), (wsv (alFrom al n H.size) cs σ' (n + m))[k]? = some x → k < n + m ∧ x = (alFrom al n H.size k, cel (alFrom al n H.size) cs (σ' k) k) := by
    intro k x hx
    have hk2 : k < n + m := by
      have := (List.getElem?_eq_some_iff.mp hx).1
      rwa [wsv_len] at this
    rw [wsv_get hk2] at hx
    cases hx
    exact ⟨hk2, rfl⟩
  have hin : ∀ i j, alFrom al n H.size i = alFrom al n H.size j → i = j := by
    intro i j h
    by_cases hi : i < n <;> by_cases hj : j < n
    · rw [alFrom_lt i hi, alFrom_lt j hj] at h
      exact hD.1 i j _ _ (wsv_get hi) (wsv_get hj) h
    · rw [alFrom_lt i hi] at h
      have := hlt i hi
      unfold alFrom at h
      rw [if_neg hj] at h
      omega
    · rw [alFrom_lt j hj] at h
      have := hlt j hj
      unfold alFrom at h
      rw [if_neg hi] at h
      omega
    · unfold alFrom at h
      rw [if_neg hi, if_neg hj] at h
      omega
  refine ⟨fun k x hx => ?_, fun i j x y hi hj hxy => ?_, fun k x hx => ?_⟩
  · obtain ⟨h1, rfl⟩ := key k x hx
    by_cases h : k < n
    · have h2 := wsv_al (al' := alFrom al n H.size) alFrom_lt hT hP
      have h3 := h2 k _ (wsv_get h)
      rw [← ho k h] at h3
      have h4 : (wsv (alFrom al n H.size) cs σ n)[k]? = some (alFrom al n H.size k, cel (alFrom al n H.size) cs (σ' k) k) := by rw [wsv_get h, ho k h]
      have h5 : va_P D vwCl (wsv (alFrom al n H.size) cs σ n) H1 := h2.kept (fun k q hq => hk _ (vx_lt h2 hq))
      exact h5 k _ h4
    · obtain ⟨i, rfl⟩ : ∃ i, k = n + i := ⟨k - n, by omega⟩
      rw [alFrom_ge]
      exact hc i (by omega)
  · obtain ⟨-, rfl⟩ := key i x hi
    obtain ⟨-, rfl⟩ := key j y hj
    exact hin i j hxy
  · obtain ⟨h1, rfl⟩ := key k x hx
    by_cases h : k < n
    · show A (alFrom al n H.size k)
      rw [alFrom_lt k h]
      exact hD.2 k _ (wsv_get h)
    · show A (alFrom al n H.size k)
      unfold alFrom
      rw [if_neg h]
      exact hA _ (by omega)
theorem Sl_add (n : Nat) : ∀ m L, (∀ i, i < m → zSz (n + i) = L) → Sl (n + m) = Sl n + m * L
  | 0, L, _ => by simp
  | m + 1, L, h => by
    show Sl (n + m) + zSz (n + m) = _
    rw [Sl_add n m L (fun i hi => h i (by omega)), h m (by omega), Nat.succ_mul]
    omega
theorem zRows_lt {σ : Hp} {n : Nat} : ∀ p, p < n → zRows σ n p = σ p := fun p hp => by funext j; unfold zRows; rw [if_neg (by omega), if_neg (by omega)]
theorem s_multi {Z : Act} {B : Bg} (hC : Cx Z B) {pc : Nat} {L : Lc} {w : Wd} {st : List PV} (hd : decode (mB B.1) pc = .ok (.multianewarray 60 2, 4)) (h0 : mC B.1 = 0) (hm : w.1 = false) (hn : w.2.1 + 14 ≤ 171) (h1 : sh w.2.1 = 16) (h2 : ln w.2.1 = 13) (h3 : ∀ i, i < 13 → sh (w.2.1 + 1 + i) = 12 ∧ ln (w.2.1 + 1 + i) = 144) (hle : le (false, w.2.1 + 14, w.2.2.1, zRows w.2.2.2 w.2.1) B.2.2.2.2.1)
    (K : GX Z B (pc + 4) L (pvR 16 13 w.2.1 :: st) (false, w.2.1 + 14, w.2.2.1, zRows w.2.2.2 w.2.1)) : GX Z B pc L (pvI 144 :: pvI 13 :: st) w := by
  obtain ⟨p, l, e, R, s, m, args, below, meth, c, D, cs, A, Q⟩ := Z
  obtain ⟨M, d, w0, al0, o, X, b⟩ := B
  obtain ⟨⟨hx, hb, hml, hown⟩, hts, hA, ⟨hlk, hst, hrt, hin, hex⟩, hMF, ⟨hR1, hR2, hR3, hR4⟩, hXs⟩ := hC
  intro al H locs la hy
  obtain ⟨y1, y2, y3, y4, y5, y6, y7, y8, y9⟩ := id hy
  have h0 : mC M = 0 := h0
  have hown : s.vm.findClass (zOwn (mC M)) = some m.cls := hown
  rw [h0] at hown
  have hle : le (false, w.2.1 + 14, w.2.2.1, zRows w.2.2.2 w.2.1) o := hle
  have hc8 := cn_le (w0 := w0) hle
  have hs8 := sn_le (w0 := w0) hle
  have hc9 : cn (false, w.2.1 + 14, w.2.2.1, zRows w.2.2.2 w.2.1) w0 = cn w w0 + 1 + 13 := cn_add y1.1
  have hz0 : zSz w.2.1 = 13 := by unfold zSz; rw [if_neg (by omega), h2]
  have hz1 : Sl (w.2.1 + 1 + 13) = Sl (w.2.1 + 1) + 13 * 144 := Sl_add (w.2.1 + 1) 13 144 (fun i hi => by unfold zSz; rw [if_neg (by have := (h3 i hi).1; omega), (h3 i hi).2])
  have hz2 : Sl (w.2.1 + 1) = Sl w.2.1 + 13 := by show Sl w.2.1 + zSz w.2.1 = _; rw [hz0]
  have hs9 : sn (false, w.2.1 + 14, w.2.2.1, zRows w.2.2.2 w.2.1) w0 = sn w w0 + 13 + 13 * 144 := by
    unfold sn
    have := Sl_mono y1.1.1; have := y1.1.2
    dsimp only
    rw [show w.2.1 + 14 = w.2.1 + 1 + 13 by omega, hz1, hz2]
    omega
  rw [hm] at y2
  have hT2 : TyM false (w.2.1 + 14) (zRows w.2.2.2 w.2.1) := by
    refine y2.new (fun _ => hn) (fun h => by cases h) zRows_lt (fun p j c o q1 q2 q3 q4 => ?_) (fun p i q1 q2 q3 => ?_) (fun p q1 q2 q3 => ?_)
    · have hk := zFld_lt q4
      by_cases e : p = w.2.1
      · subst e; omega
      · have := h3 (p - w.2.1 - 1) (by omega)
        rw [show w.2.1 + 1 + (p - w.2.1 - 1) = p by omega] at this
        omega
    · by_cases e : p = w.2.1
      · subst e
        rw [h1, h2]
        show 0 ≤ i → i < (13 : Nat) → _
        intro _ _
        unfold zRows
        rw [if_pos rfl]
      · have := h3 (p - w.2.1 - 1) (by omega)
        rw [show w.2.1 + 1 + (p - w.2.1 - 1) = p by omega] at this
        rw [this.1]
        show r32 _
        unfold zRows
        rw [if_neg e, if_pos ⟨by omega, by omega⟩]
        exact r32_c rfl
    · by_cases e : p = w.2.1
      · omega
      · have := h3 (p - w.2.1 - 1) (by omega)
        rw [show w.2.1 + 1 + (p - w.2.1 - 1) = p by omega] at this
        omega
  intro T hT Xs
  obtain ⟨vm₁, cA, comp, -, fA, fC, hO, -, X', step⟩ := Xs.multianewarray2F (own := zOwn 0) (index := 60) (ty := .int) (n := Int32.ofInt 13) (k := Int32.ofInt 144) (rest := st.map (vl al b)) hx hown (hts _ (by decide +kernel)) hMF.2.2.2.2.2.2.2.2 (hts _ (by decide +kernel)) (g := F0 m pc la (.int (Int32.ofInt 144) :: .int (Int32.ofInt 13) :: st.map (vl al b))) rfl (by rw [hb]; exact hd) rfl (by decide) (by decide) (by decide) (by decide) (by decide) rfl rfl (by show cn w w0 + (1 + 13) ≤ _; omega) (by show sn w w0 + (13 + 13 * 144) ≤ _; omega)
  have n13 : (Int32.ofInt 13).toNatClampNeg = 13 := by decide
  have n144 : (Int32.ofInt 144).toNatClampNeg = 144 := by decide
  rw [n13, n144] at X' step
  have hcA : cA = cs.2.2.2.2 := by
    have h6 : s.vm.findClass ("[" ++ (FieldType.array .int).toString) = some cs.2.2.2.2 := (hMF.1.2 4 (cs.2.2.2.2, .array .int) rfl).2
    exact Option.some.inj (fA.symm.trans h6)
  have hcC : comp = cs.1 := by
    have h6 : s.vm.findClass ("[" ++ FieldType.int.toString) = some cs.1 := (hMF.1.2 0 (cs.1, .int) rfl).2
    exact Option.some.inj (fC.symm.trans h6)
  subst hcA
  subst hcC
  generalize hF : Jvm.Free.Multi.fill (T.setVm vm₁) cs.2.2.2.2 cs.1 13 144 (defaultValue .int) 13 = F at X' step
  have hTh : (T.setVm vm₁).heap = H := hT
  obtain ⟨f1, f2, -, -⟩ := Jvm.Free.Multi.fill_facts (T.setVm vm₁) cs.2.2.2.2 cs.1 13 144 (defaultValue .int) 13
  rw [hF, hTh] at f1 f2
  have hold : ∀ x : Nat, x < H.size → F.heap[x]? = H[x]? := fun x hx => by
    have := Jvm.Free.Multi.fill_old (T.setVm vm₁) cs.2.2.2.2 cs.1 13 144 (defaultValue .int) (a := x) (by rw [hTh]; exact hx) 13
    rw [hF, hTh] at this
    exact this
  have hrow : ∀ j : Nat, j < 13 → F.heap[H.size + 1 + j]? = some (arrV cs.1 144 fun _ => .int 0) := fun j hj => by
    have := Jvm.Free.Multi.fill_inner (T.setVm vm₁) cs.2.2.2.2 cs.1 13 144 (defaultValue .int) 13 j hj
    rw [hF, hTh] at this
    rw [this]
    show some ({ cls := cs.1, slots := Array.replicate 144 (defaultValue .int), vm := .none } : Cell) = _
    rw [arrV_new]
    rfl
  rw [vr_outer] at f2
  obtain ⟨g1, g2⟩ := growM (m := 14) (H1 := F.heap) (A := A) y2 (zRows_lt (n := w.2.1)) y7 y8 hold (fun q hq => hA q (Nat.le_trans y9.1 hq)) (fun k hk => by
    by_cases e : k = 0
    · subst e
      have c1 : cel (alFrom al w.2.1 H.size) cs (zRows w.2.2.2 w.2.1 (w.2.1 + 0)) (w.2.1 + 0) = .inl (cs.2.2.2.2, 13, .inr (.inr (.inr (.inr fun j => rfo (alFrom al w.2.1 H.size) (zRows w.2.2.2 w.2.1 w.2.1 j))))) := by simp [cel, h1, h2]
      rw [c1]
      show F.heap[H.size + 0]? = some (arrV cs.2.2.2.2 13 fun j => va_rf (rfo (alFrom al w.2.1 H.size) (zRows w.2.2.2 w.2.1 w.2.1 j)))
      rw [Nat.add_zero, f2]
      congr 1
      unfold arrV
      congr 2
      funext j
      have hj := j.isLt
      refine congrArg va_rf ?_
      rw [if_pos hj]
      unfold zRows rfo
      rw [if_pos rfl, if_neg (by omega), show ((w.2.1 : Int) + 1 + (j.val : Int)).toNat = w.2.1 + (1 + j.val) by omega, alFrom_ge]
      congr 1
      omega
    · obtain ⟨i, rfl⟩ : ∃ i, k = 1 + i := ⟨k - 1, by omega⟩
      have h4 := h3 i (by omega)
      rw [show w.2.1 + 1 + i = w.2.1 + (1 + i) by omega] at h4
      have c1 : cel (alFrom al w.2.1 H.size) cs (zRows w.2.2.2 w.2.1 (w.2.1 + (1 + i))) (w.2.1 + (1 + i)) = .inl (cs.1, 144, .inl fun _ => 0) := by
        have e3 : (fun j : Nat => Int32.ofInt (zRows w.2.2.2 w.2.1 (w.2.1 + (1 + i)) j)) = fun _ => 0 := funext fun j => by
          unfold zRows
          rw [if_neg (by omega), if_pos ⟨by omega, by omega⟩]
          rfl
        unfold cel
        rw [if_neg (by omega), if_neg (by omega), if_neg (by omega), if_neg (by omega), if_neg (by omega), e3, h4.2]
      rw [c1]
      show F.heap[H.size + (1 + i)]? = some (arrV cs.1 144 fun _ => .int 0)
      rw [show H.size + (1 + i) = H.size + 1 + i by omega]
      exact hrow i (by omega))
  have hS3 : va_S A s.heap F.heap locs := ⟨by rw [f1]; have := y9.1; omega, fun x q1 q2 => (hold x (Nat.lt_of_lt_of_le q1 y9.1)).trans (y9.2.1 x q1 q2), y9.2.2⟩
  have KK := K (alFrom al w.2.1 H.size) F.heap locs la ⟨⟨⟨Nat.le_trans y1.1.1 (Nat.le_add_right _ _), y1.1.2⟩, hle⟩, hT2, all_cons (PVok.R.mpr ⟨by show w.2.1 < w.2.1 + 14; omega, h1, h2⟩) (fun v hv => (y3 v (List.mem_cons_of_mem _ (List.mem_cons_of_mem _ hv))).mono (Nat.le_add_right _ _)), fun i v hv => (y4 i v hv).mono (Nat.le_add_right _ _), fun p hp => (alFrom_lt p (Nat.lt_of_lt_of_le hp y1.1.1)).trans (y5 p hp), y6.congr alFrom_lt y4, g1, g2, hS3⟩
  rw [hc9, hs9] at KK
  have hst9 : (pvR 16 13 w.2.1 :: st).map (vl (alFrom al w.2.1 H.size) b) = .ref H.size :: st.map (vl al b) := by
    rw [List.map_cons, vl_R]
    have := alFrom_ge (al := al) (n := w.2.1) (z := H.size) (k := 0)
    rw [Nat.add_zero] at this
    rw [this]
    congr 1
    exact List.map_congr_left fun v hv => vl_congr alFrom_lt (y3 v (List.mem_cons_of_mem _ (List.mem_cons_of_mem _ hv)))
  rw [hst9] at KK
  have e9 : T.heap.size = H.size := by rw [hT]
  obtain ⟨t, a1, b1⟩ := KK F rfl X'
  refine ⟨t, step t ?_, b1⟩
  rw [e9]
  exact a1
