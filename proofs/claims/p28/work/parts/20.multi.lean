/-! ===== new int[13][144] ===== -/
theorem vr_outer (c : ClassId) (N h0 : Nat) : ∀ i : Nat, Jvm.Free.Multi.outerC c N h0 i = arrV c N (fun j => va_rf (if j < i then some (h0 + 1 + j) else none))
  | 0 => by
    show ({ cls := c, slots := Array.replicate N .null, vm := .none } : Cell) = _
    rw [arrV_new]
    refine congrArg (arrV c N) (funext fun j => ?_)
    simp [va_rf]
  | i + 1 => by
    show (Jvm.Free.Multi.outerC c N h0 i).setSlot i (.ref (h0 + 1 + i)) = _
    rw [vr_outer c N h0 i, arrV_store]
    refine congrArg (arrV c N) (funext fun j => ?_)
    by_cases e : j = i
    · subst e
      simp [updV, va_rf]
    · by_cases h : j < i
      · simp [updV, e, h, Nat.lt_succ_of_lt h]
      · simp [updV, e, h, show ¬ j < i + 1 by omega]
def alF (al : Nat → Nat) (N m : Nat) (f : Nat → Nat) : Nat → Nat := fun p => if N ≤ p ∧ p < N + m then f (p - N) else al p
theorem alF_in {al : Nat → Nat} {n N m : Nat} {f : Nat → Nat} (hd : ∀ p, inn n p → ¬ (N ≤ p ∧ p < N + m)) : ∀ p, inn n p → alF al N m f p = al p := fun p hp => by unfold alF; rw [if_neg (hd p hp)]
theorem alF_ge {al : Nat → Nat} {N m k : Nat} {f : Nat → Nat} (hk : k < m) : alF al N m f (N + k) = f k := by unfold alF; rw [if_pos ⟨by omega, by omega⟩]; congr 1; omega
/-- m more cells -/
theorem growX {md : Bool} {n n' N m : Nat} {σ σ' : Hp} {al : Nat → Nat} {cs : Cids} {D : va_G} {H1 : Heap} {A : Nat → Prop} {f : Nat → Nat} (hT : TyM md n σ) (hn : ∀ p, inn n' p → inn n p ∨ (N ≤ p ∧ p < N + m)) (hd : ∀ p, inn n p → ¬ (N ≤ p ∧ p < N + m)) (ho : ∀ p, inn n p → σ' p = σ p) (hP : va_P D vwCl (wsv al cs σ n) H1) (hD : va_D A (wsv al cs σ n)) (hf : ∀ i j, i < m → j < m → f i = f j → i = j) (hfo : ∀ i, i < m → ∀ p, inn n p → al p ≠ f i) (hA : ∀ i, i < m → A (f i))
    (hc : ∀ k, k < m → va_at D vwCl (f k, cel (alF al N m f) cs (σ' (N + k)) (N + k)) H1) : va_P D vwCl (wsv (alF al N m f) cs σ' n') H1 ∧ va_D A (wsv (alF al N m f) cs σ' n') := by
  have key : ∀ p, (N ≤ p ∧ p < N + m) → ∃ i, i < m ∧ p = N + i := fun p hp => ⟨p - N, by omega, by omega⟩
  refine growG (N := fun p => N ≤ p ∧ p < N + m) hT hn ho (alF_in hd) hP hD (fun p hp => ?_) (fun p q hp hq e => ?_) (fun p q hp hq => ?_) (fun p hp => ?_)
  · obtain ⟨i, hi, rfl⟩ := key p hp
    rw [alF_ge hi]; exact hc i hi
  · obtain ⟨i, hi, rfl⟩ := key p hp
    obtain ⟨j, hj, rfl⟩ := key q hq
    rw [alF_ge hi, alF_ge hj] at e
    rw [hf i j hi hj e]
  · obtain ⟨i, hi, rfl⟩ := key p hp
    rw [alF_ge hi]
    exact fun z => hfo i hi q hq z.symm
  · obtain ⟨i, hi, rfl⟩ := key p hp
    rw [alF_ge hi]; exact hA i hi
theorem inn_m {n m : Nat} (h : n + m ≤ 130) : (∀ p, inn (n + m) p → inn n p ∨ (n ≤ p ∧ p < n + m)) ∧ (∀ p, inn n p → ¬ (n ≤ p ∧ p < n + m)) ∧ ∀ i, i < m → inn (n + m) (n + i) := by
  refine ⟨fun p hp => ?_, fun p hp z => ?_, fun i hi => ?_⟩
  · unfold inn at hp ⊢; omega
  · unfold inn at hp; omega
  · unfold inn; omega
theorem Sl_add (n : Nat) : ∀ m L, (∀ i, i < m → zSz (n + i) = L) → Sl (n + m) = Sl n + m * L
  | 0, L, _ => by simp
  | m + 1, L, h => by
    show Sl (n + m) + zSz (n + m) = _
    rw [Sl_add n m L (fun i hi => h i (by omega)), h m (by omega), Nat.succ_mul]
    omega
theorem zRows_in {σ : Hp} {n : Nat} (hn : n + 14 ≤ 130) : ∀ p, inn n p → zRows σ n p = σ p := fun p hp => by have := inn_lt hp (by omega); funext j; unfold zRows; rw [if_neg (by omega), if_neg (by omega)]
theorem s_multi {Z : Act} {B : Bg} (hC : Cx Z B) {pc : Nat} {L : Lc} {w : Wd} {st : List PV} (hd : decode (mB B.1) pc = .ok (.multianewarray 60 2, 4)) (h0 : mC B.1 = 0) (hm : w.1 = false) (hn : w.2.1 + 14 ≤ 130) (h1 : sh w.2.1 = 16) (h2 : ln w.2.1 = 13) (h3 : ∀ i, i < 13 → sh (w.2.1 + 1 + i) = 12 ∧ ln (w.2.1 + 1 + i) = 144) (hle : le (false, w.2.1 + 14, w.2.2.1, zRows w.2.2.2 w.2.1) B.2.2.2.2.1)
    (K : GX Z B (pc + 4) L (pvR 16 13 w.2.1 :: st) (false, w.2.1 + 14, w.2.2.1, zRows w.2.2.2 w.2.1)) : GX Z B pc L (pvI 144 :: pvI 13 :: st) w := by
  obtain ⟨p, l, e, R, s, m, args, below, meth, c, D, cs, A, Q⟩ := Z
  obtain ⟨M, d, w0, al0, o, X, b⟩ := B
  obtain ⟨⟨hx, hb, hml, hown⟩, hts, hA, ⟨hlk, hst, hrt, hin, hex⟩, hMF, ⟨hR1, hR2, hR3, hR4⟩, hXs⟩ := hC
  intro al H locs la hy
  obtain ⟨y1, y2, y3, y4, y5, y6, y7, y8, y9⟩ := id hy
  have h0 : mC M = 0 := h0
  have hown : s.vm.findClass (zOwn (mC M)) = some m.cls := hown
  rw [h0] at hown
  have hle : le (false, w.2.1 + 14, w.2.2.1, zRows w.2.2.2 w.2.1) o := hle
  have hc8 := cn_le (w0 := w0) hle
  have hs8 := sn_le (w0 := w0) hle
  have hc9 : cn (false, w.2.1 + 14, w.2.2.1, zRows w.2.2.2 w.2.1) w0 = cn w w0 + 1 + 13 := cn_add y1.1 (cw_1 hn)
  have hz0 : zSz w.2.1 = 13 := by unfold zSz; rw [if_neg (by omega), h2]
  have hz1 : Sl (w.2.1 + 1 + 13) = Sl (w.2.1 + 1) + 13 * 144 := Sl_add (w.2.1 + 1) 13 144 (fun i hi => by unfold zSz; rw [if_neg (by have := (h3 i hi).1; omega), (h3 i hi).2])
  have hz2 : Sl (w.2.1 + 1) = Sl w.2.1 + 13 := by show Sl w.2.1 + zSz w.2.1 = _; rw [hz0]
  have hs9 : sn (false, w.2.1 + 14, w.2.2.1, zRows w.2.2.2 w.2.1) w0 = sn w w0 + 13 + 13 * 144 := by
    refine (sn_add (k := 13 + 13 * 144) y1.1 ?_).trans (by omega)
    unfold SL
    rw [show (w.2.1 + 14) % 1048576 = w.2.1 + 1 + 13 by omega, show (w.2.1 + 14) / 1048576 = w.2.1 / 1048576 by omega, show w.2.1 % 1048576 = w.2.1 by omega, hz1, hz2]
    omega
  rw [hm] at y2
  have hT2 : TyM false (w.2.1 + 14) (zRows w.2.2.2 w.2.1) := by
    refine y2.new (N := fun p => w.2.1 ≤ p ∧ p < w.2.1 + 14) (nle_1 hn) (fun _ => hn) (fun h => by cases h) (inn_m hn).1 (zRows_in hn) (fun p j c o q1 q3 q4 => ?_) (fun p i q1 q3 => ?_) (fun _ p q1 q3 => ?_)
    · have hk := zFld_lt q4
      by_cases e : p = w.2.1
      · subst e; omega
      · have := h3 (p - w.2.1 - 1) (by omega)
        rw [show w.2.1 + 1 + (p - w.2.1 - 1) = p by omega] at this
        omega
    · by_cases e : p = w.2.1
      · subst e
        rw [h1, h2]
        show 0 ≤ i → i < (13 : Nat) → _
        intro _ _
        unfold zRows
        rw [if_pos rfl]
      · have := h3 (p - w.2.1 - 1) (by omega)
        rw [show w.2.1 + 1 + (p - w.2.1 - 1) = p by omega] at this
        rw [this.1]
        show r32 _
        unfold zRows
        rw [if_neg e, if_pos ⟨by omega, by omega⟩]
        exact r32_c rfl
    · by_cases e : p = w.2.1
      · omega
      · have := h3 (p - w.2.1 - 1) (by omega)
        rw [show w.2.1 + 1 + (p - w.2.1 - 1) = p by omega] at this
        omega
  intro T hT Xs
  obtain ⟨vm₁, cA, comp, -, fA, fC, hO, -, X', step⟩ := Xs.multianewarray2F (own := zOwn 0) (index := 60) (ty := .int) (n := Int32.ofInt 13) (k := Int32.ofInt 144) (rest := st.map (vl al b)) hx hown (hts _ (by decide +kernel)) hMF.2.2.2.2.2.2.2.2 (hts _ (by decide +kernel)) (g := F0 m pc la (.int (Int32.ofInt 144) :: .int (Int32.ofInt 13) :: st.map (vl al b))) rfl (by rw [hb]; exact hd) rfl (by decide) (by decide) (by decide) (by decide) (by decide) rfl rfl (by show cn w w0 + (1 + 13) ≤ _; omega) (by show sn w w0 + (13 + 13 * 144) ≤ _; omega)
  have n13 : (Int32.ofInt 13).toNatClampNeg = 13 := by decide
  have n144 : (Int32.ofInt 144).toNatClampNeg = 144 := by decide
  rw [n13, n144] at X' step
  have hcA : cA = cs.2.2.2.2 := by
    have h6 : s.vm.findClass ("[" ++ (FieldType.array .int).toString) = some cs.2.2.2.2 := (hMF.1.2 4 (cs.2.2.2.2, .array .int) rfl).2
    exact Option.some.inj (fA.symm.trans h6)
  have hcC : comp = cs.1 := by
    have h6 : s.vm.findClass ("[" ++ FieldType.int.toString) = some cs.1 := (hMF.1.2 0 (cs.1, .int) rfl).2
    exact Option.some.inj (fC.symm.trans h6)
  subst hcA
  subst hcC
  generalize hF : Jvm.Free.Multi.fill (T.setVm vm₁) cs.2.2.2.2 cs.1 13 144 (defaultValue .int) 13 = F at X' step
  have hTh : (T.setVm vm₁).heap = H := hT
  obtain ⟨f1, f2, -, -⟩ := Jvm.Free.Multi.fill_facts (T.setVm vm₁) cs.2.2.2.2 cs.1 13 144 (defaultValue .int) 13
  rw [hF, hTh] at f1 f2
  have hold : ∀ x : Nat, x < H.size → F.heap[x]? = H[x]? := fun x hx => by
    have := Jvm.Free.Multi.fill_old (T.setVm vm₁) cs.2.2.2.2 cs.1 13 144 (defaultValue .int) (a := x) (by rw [hTh]; exact hx) 13
    rw [hF, hTh] at this
    exact this
  have hrow : ∀ j : Nat, j < 13 → F.heap[H.size + 1 + j]? = some (arrV cs.1 144 fun _ => .int 0) := fun j hj => by
    have := Jvm.Free.Multi.fill_inner (T.setVm vm₁) cs.2.2.2.2 cs.1 13 144 (defaultValue .int) 13 j hj
    rw [hF, hTh] at this
    rw [this]
    show some ({ cls := cs.1, slots := Array.replicate 144 (defaultValue .int), vm := .none } : Cell) = _
    rw [arrV_new]
    rfl
  rw [vr_outer] at f2
  have hP1 : va_P D vwCl (wsv al cs w.2.2.2 w.2.1) F.heap := y7.kept (fun k q hq => hold _ (vx_lt y7 hq))
  have hlt : ∀ p, inn w.2.1 p → al p < H.size := fun p hp => vx_lt y7 (wsv_get hp)
  obtain ⟨g1, g2⟩ := growX (m := 14) (f := fun i => H.size + i) y2 (inn_m hn).1 (inn_m hn).2.1 (zRows_in hn) hP1 y8 (fun i j _ _ e => by omega) (fun i _ p hp e => by have := hlt p hp; omega) (fun i _ => hA _ (by have := y9.1; omega)) (fun k hk => by
    by_cases e : k = 0
    · subst e
      have c1 : cel (alF al w.2.1 14 fun i => H.size + i) cs (zRows w.2.2.2 w.2.1 (w.2.1 + 0)) (w.2.1 + 0) = .inl (cs.2.2.2.2, 13, .inr (.inr (.inr (.inr fun j => rfo (alF al w.2.1 14 fun i => H.size + i) (zRows w.2.2.2 w.2.1 w.2.1 j))))) := by simp [cel, h1, h2]
      rw [c1]
      show F.heap[H.size + 0]? = some (arrV cs.2.2.2.2 13 fun j => va_rf (rfo (alF al w.2.1 14 fun i => H.size + i) (zRows w.2.2.2 w.2.1 w.2.1 j)))
      rw [Nat.add_zero, f2]
      congr 1
      unfold arrV
      congr 2
      funext j
      have hj := j.isLt
      refine congrArg va_rf ?_
      rw [if_pos hj]
      unfold zRows rfo
      rw [if_pos rfl, if_neg (by omega), show ((w.2.1 : Int) + 1 + (j.val : Int)).toNat = w.2.1 + (1 + j.val) by omega, alF_ge (by omega)]
      congr 1
      omega
    · obtain ⟨i, rfl⟩ : ∃ i, k = 1 + i := ⟨k - 1, by omega⟩
      have h4 := h3 i (by omega)
      rw [show w.2.1 + 1 + i = w.2.1 + (1 + i) by omega] at h4
      have c1 : cel (alF al w.2.1 14 fun i => H.size + i) cs (zRows w.2.2.2 w.2.1 (w.2.1 + (1 + i))) (w.2.1 + (1 + i)) = .inl (cs.1, 144, .inl fun _ => 0) := by
        have e3 : (fun j : Nat => Int32.ofInt (zRows w.2.2.2 w.2.1 (w.2.1 + (1 + i)) j)) = fun _ => 0 := funext fun j => by
          unfold zRows
          rw [if_neg (by omega), if_pos ⟨by omega, by omega⟩]
          rfl
        unfold cel
        rw [if_neg (by omega), if_neg (by omega), if_neg (by omega), if_neg (by omega), if_neg (by omega), e3, h4.2]
      rw [c1]
      show F.heap[H.size + (1 + i)]? = some (arrV cs.1 144 fun _ => .int 0)
      rw [show H.size + (1 + i) = H.size + 1 + i by omega]
      exact hrow i (by omega))
  have hS3 : va_S A s.heap F.heap locs := ⟨by rw [f1]; have := y9.1; omega, fun x q1 q2 => (hold x (Nat.lt_of_lt_of_le q1 y9.1)).trans (y9.2.1 x q1 q2), y9.2.2⟩
  have KK := K (alF al w.2.1 14 fun i => H.size + i) F.heap locs la ⟨⟨⟨y1.1.1.trans (nle_1 hn), y1.1.2⟩, hle⟩, hT2, all_cons (PVok.R.mpr ⟨(inn_m hn).2.2 0 (by omega), h1, h2⟩) (fun v hv => (y3 v (List.mem_cons_of_mem _ (List.mem_cons_of_mem _ hv))).mono (nle_1 hn)), fun i v hv => (y4 i v hv).mono (nle_1 hn), fun p hp => (alF_in (inn_m hn).2.1 p (hp.mono y1.1.1)).trans (y5 p hp), y6.congr (alF_in (inn_m hn).2.1) y4, g1, g2, hS3⟩
  rw [hc9, hs9] at KK
  have hst9 : (pvR 16 13 w.2.1 :: st).map (vl (alF al w.2.1 14 fun i => H.size + i) b) = .ref H.size :: st.map (vl al b) := by
    rw [List.map_cons, vl_R]
    have := alF_ge (al := al) (N := w.2.1) (m := 14) (k := 0) (f := fun i => H.size + i) (by omega)
    rw [Nat.add_zero, Nat.add_zero] at this
    rw [this]
    congr 1
    exact List.map_congr_left fun v hv => vl_congr (alF_in (inn_m hn).2.1) (y3 v (List.mem_cons_of_mem _ (List.mem_cons_of_mem _ hv)))
  rw [hst9] at KK
  have e9 : T.heap.size = H.size := by rw [hT]
  obtain ⟨t, a1, b1⟩ := KK F rfl X'
  refine ⟨t, step t ?_, b1⟩
  rw [e9]
  exact a1
