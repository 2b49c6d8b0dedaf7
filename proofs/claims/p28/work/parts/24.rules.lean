/-! ===== rules: how a run of the numbers' machine is put together ===== -/
section GO
variable {X : Xs} {E : Er} {M : Mt} {pc pc' : Nat} {L L' : Lc} {st : List PV} {w : Wd} {out : Out} {md : Bool} {n e : Nat} {σ : Hp}
abbrev wle : Wd → Wd → Prop := le
theorem Go.le (h : Go X E M pc L st w out) : le w out.2.2 := by
  obtain ⟨f, h⟩ := h
  match f, h with
  | f + 1, h => exact h.1
theorem Go.mk {i : Instr} {len : Nat} (hd : decode (mB M) pc = .ok (i, len)) (hle : wle w out.2.2) (h : ∃ f, stepP X E M i len (fun pc' L' st' w' => runB X E M f pc' L' st' w' out) (fun o => out = o) pc L st w) : Go X E M pc L st w out := by
  obtain ⟨f, h⟩ := h
  exact ⟨f + 1, hle, Or.inl ⟨i, len, hd, h⟩⟩
/-- fewer locals are known -/
theorem go_sub (K : Go X E M pc L' st w out) (h : lsub L L') : Go X E M pc L st w out := by
  have hl := K.le
  obtain ⟨f, K⟩ := id K
  exact ⟨f + 1, hl, Or.inr (Or.inr ⟨L', h, K⟩)⟩
theorem go_iconst {v : Int} (hd : decode (mB M) pc = .ok (.iconst v, 1)) (hp : pc + 1 = pc') (hr : r32 v) (K : Go X E M pc' L (pvI v :: st) w out) : Go X E M pc L (st) w out := by
  subst hp
  obtain ⟨f, K⟩ := id K
  have hl0 : wle w out.2.2 := Go.le (w := w) ⟨f, K⟩
  exact Go.mk hd hl0 ⟨f, rfl, hr, K⟩
theorem go_bipush {v : Int} (hd : decode (mB M) pc = .ok (.bipush v, 2)) (hp : pc + 2 = pc') (hr : r32 v) (h8 : (Int8.ofInt v).toInt32 = Int32.ofInt v) (K : Go X E M pc' L (pvI v :: st) w out) : Go X E M pc L (st) w out := by
  subst hp
  obtain ⟨f, K⟩ := id K
  have hl0 : wle w out.2.2 := Go.le (w := w) ⟨f, K⟩
  exact Go.mk hd hl0 ⟨f, rfl, hr, h8, K⟩
theorem go_sipush {v : Int} (hd : decode (mB M) pc = .ok (.sipush v, 3)) (hp : pc + 3 = pc') (hr : r32 v) (h8 : (Int16.ofInt v).toInt32 = Int32.ofInt v) (K : Go X E M pc' L (pvI v :: st) w out) : Go X E M pc L (st) w out := by
  subst hp
  obtain ⟨f, K⟩ := id K
  have hl0 : wle w out.2.2 := Go.le (w := w) ⟨f, K⟩
  exact Go.mk hd hl0 ⟨f, rfl, hr, h8, K⟩
theorem go_lconst {v : Fin 2} {z : Int} (hd : decode (mB M) pc = .ok (.lconst v, 1)) (hp : pc + 1 = pc') (hz : ((v : Nat) : Int) = z) (K : Go X E M pc' L (pvL z :: st) w out) : Go X E M pc L (st) w out := by
  subst hp
  obtain ⟨f, K⟩ := id K
  have hl0 : wle w out.2.2 := Go.le (w := w) ⟨f, K⟩
  exact Go.mk hd hl0 ⟨f, rfl, by rw [hz]; exact K⟩
theorem go_null  (hd : decode (mB M) pc = .ok (.aconst_null, 1)) (hp : pc + 1 = pc') (K : Go X E M pc' L (pvF (-1) :: st) w out) : Go X E M pc L (st) w out := by
  subst hp
  obtain ⟨f, K⟩ := id K
  have hl0 : wle w out.2.2 := Go.le (w := w) ⟨f, K⟩
  exact Go.mk hd hl0 ⟨f, rfl, K⟩
theorem go_ldc {i : Nat} {v : Int} (hd : decode (mB M) pc = .ok (.ldc i, 2)) (hp : pc + 2 = pc') (hr : r32 v) (hc : rCst (mC M) i = some (0, v)) (K : Go X E M pc' L (pvI v :: st) w out) : Go X E M pc L (st) w out := by
  subst hp
  obtain ⟨f, K⟩ := id K
  have hl0 : wle w out.2.2 := Go.le (w := w) ⟨f, K⟩
  exact Go.mk hd hl0 ⟨f, v, rfl, hr, hc, K⟩
theorem go_ldcw {i : Nat} {v : Int} (hd : decode (mB M) pc = .ok (.ldc_w i, 3)) (hp : pc + 3 = pc') (hr : r32 v) (hc : rCst (mC M) i = some (0, v)) (K : Go X E M pc' L (pvI v :: st) w out) : Go X E M pc L (st) w out := by
  subst hp
  obtain ⟨f, K⟩ := id K
  have hl0 : wle w out.2.2 := Go.le (w := w) ⟨f, K⟩
  exact Go.mk hd hl0 ⟨f, v, rfl, hr, hc, K⟩
theorem go_ldc2 {i : Nat} {v : Int} (hd : decode (mB M) pc = .ok (.ldc2_w i, 3)) (hp : pc + 3 = pc') (hr : r64 v) (hc : rCst (mC M) i = some (1, v)) (K : Go X E M pc' L (pvL v :: st) w out) : Go X E M pc L (st) w out := by
  subst hp
  obtain ⟨f, K⟩ := id K
  have hl0 : wle w out.2.2 := Go.le (w := w) ⟨f, K⟩
  exact Go.mk hd hl0 ⟨f, v, rfl, hr, hc, K⟩
theorem go_iload_n {k : Fin 4} {x : Int} (hd : decode (mB M) pc = .ok (.iload_n k, 1)) (hp : pc + 1 = pc') (h : L[(k : Nat)]? = some (some (pvI x))) (K : Go X E M pc' L (pvI x :: st) w out) : Go X E M pc L (st) w out := by
  subst hp
  obtain ⟨f, K⟩ := id K
  have hl0 : wle w out.2.2 := Go.le (w := w) ⟨f, K⟩
  exact Go.mk hd hl0 ⟨f, x, rfl, h, K⟩
theorem go_iload {k : Nat} {x : Int} (hd : decode (mB M) pc = .ok (.iload k, 2)) (hp : pc + 2 = pc') (h : L[k]? = some (some (pvI x))) (K : Go X E M pc' L (pvI x :: st) w out) : Go X E M pc L (st) w out := by
  subst hp
  obtain ⟨f, K⟩ := id K
  have hl0 : wle w out.2.2 := Go.le (w := w) ⟨f, K⟩
  exact Go.mk hd hl0 ⟨f, x, rfl, h, K⟩
theorem go_istore_n {k : Fin 4} {x : Int} (hd : decode (mB M) pc = .ok (.istore_n k, 1)) (hp : pc + 1 = pc') (h : (k : Nat) < L.length) (hl : sto1 L k (pvI x) = L') (K : Go X E M pc' L' (st) w out) : Go X E M pc L (pvI x :: st) w out := by
  subst hp
  obtain ⟨f, K⟩ := id K
  have hl0 : wle w out.2.2 := Go.le (w := w) ⟨f, K⟩
  exact Go.mk hd hl0 ⟨f, x, st, rfl, rfl, h, by rw [hl]; exact K⟩
theorem go_istore {k : Nat} {x : Int} (hd : decode (mB M) pc = .ok (.istore k, 2)) (hp : pc + 2 = pc') (h : k < L.length) (hl : sto1 L k (pvI x) = L') (K : Go X E M pc' L' (st) w out) : Go X E M pc L (pvI x :: st) w out := by
  subst hp
  obtain ⟨f, K⟩ := id K
  have hl0 : wle w out.2.2 := Go.le (w := w) ⟨f, K⟩
  exact Go.mk hd hl0 ⟨f, x, st, rfl, rfl, h, by rw [hl]; exact K⟩
theorem go_lload_n {k : Fin 4} {x : Int} (hd : decode (mB M) pc = .ok (.lload_n k, 1)) (hp : pc + 1 = pc') (h : L[(k : Nat)]? = some (some (pvL x))) (K : Go X E M pc' L (pvL x :: st) w out) : Go X E M pc L (st) w out := by
  subst hp
  obtain ⟨f, K⟩ := id K
  have hl0 : wle w out.2.2 := Go.le (w := w) ⟨f, K⟩
  exact Go.mk hd hl0 ⟨f, x, rfl, h, K⟩
theorem go_lload {k : Nat} {x : Int} (hd : decode (mB M) pc = .ok (.lload k, 2)) (hp : pc + 2 = pc') (h : L[k]? = some (some (pvL x))) (K : Go X E M pc' L (pvL x :: st) w out) : Go X E M pc L (st) w out := by
  subst hp
  obtain ⟨f, K⟩ := id K
  have hl0 : wle w out.2.2 := Go.le (w := w) ⟨f, K⟩
  exact Go.mk hd hl0 ⟨f, x, rfl, h, K⟩
theorem go_lstore_n {k : Fin 4} {x : Int} (hd : decode (mB M) pc = .ok (.lstore_n k, 1)) (hp : pc + 1 = pc') (h : (k : Nat) + 1 < L.length) (hl : sto2 L k (pvL x) = L') (K : Go X E M pc' L' (st) w out) : Go X E M pc L (pvL x :: st) w out := by
  subst hp
  obtain ⟨f, K⟩ := id K
  have hl0 : wle w out.2.2 := Go.le (w := w) ⟨f, K⟩
  exact Go.mk hd hl0 ⟨f, x, st, rfl, rfl, h, by rw [hl]; exact K⟩
theorem go_lstore {k : Nat} {x : Int} (hd : decode (mB M) pc = .ok (.lstore k, 2)) (hp : pc + 2 = pc') (h : k + 1 < L.length) (hl : sto2 L k (pvL x) = L') (K : Go X E M pc' L' (st) w out) : Go X E M pc L (pvL x :: st) w out := by
  subst hp
  obtain ⟨f, K⟩ := id K
  have hl0 : wle w out.2.2 := Go.le (w := w) ⟨f, K⟩
  exact Go.mk hd hl0 ⟨f, x, st, rfl, rfl, h, by rw [hl]; exact K⟩
theorem go_aload_n {k : Fin 4} {v : PV} (hd : decode (mB M) pc = .ok (.aload_n k, 1)) (hp : pc + 1 = pc') (h : L[(k : Nat)]? = some (some v)) (hv : 2 ≤ v.1) (K : Go X E M pc' L (v :: st) w out) : Go X E M pc L (st) w out := by
  subst hp
  obtain ⟨f, K⟩ := id K
  have hl0 : wle w out.2.2 := Go.le (w := w) ⟨f, K⟩
  exact Go.mk hd hl0 ⟨f, v, rfl, h, hv, K⟩
theorem go_aload {k : Nat} {v : PV} (hd : decode (mB M) pc = .ok (.aload k, 2)) (hp : pc + 2 = pc') (h : L[k]? = some (some v)) (hv : 2 ≤ v.1) (K : Go X E M pc' L (v :: st) w out) : Go X E M pc L (st) w out := by
  subst hp
  obtain ⟨f, K⟩ := id K
  have hl0 : wle w out.2.2 := Go.le (w := w) ⟨f, K⟩
  exact Go.mk hd hl0 ⟨f, v, rfl, h, hv, K⟩
theorem go_astore_n {k : Fin 4} {v : PV} (hd : decode (mB M) pc = .ok (.astore_n k, 1)) (hp : pc + 1 = pc') (h : (k : Nat) < L.length) (hv : 2 ≤ v.1) (hl : sto1 L k v = L') (K : Go X E M pc' L' (st) w out) : Go X E M pc L (v :: st) w out := by
  subst hp
  obtain ⟨f, K⟩ := id K
  have hl0 : wle w out.2.2 := Go.le (w := w) ⟨f, K⟩
  exact Go.mk hd hl0 ⟨f, v, st, rfl, rfl, hv, h, by rw [hl]; exact K⟩
theorem go_astore {k : Nat} {v : PV} (hd : decode (mB M) pc = .ok (.astore k, 2)) (hp : pc + 2 = pc') (h : k < L.length) (hv : 2 ≤ v.1) (hl : sto1 L k v = L') (K : Go X E M pc' L' (st) w out) : Go X E M pc L (v :: st) w out := by
  subst hp
  obtain ⟨f, K⟩ := id K
  have hl0 : wle w out.2.2 := Go.le (w := w) ⟨f, K⟩
  exact Go.mk hd hl0 ⟨f, v, st, rfl, rfl, hv, h, by rw [hl]; exact K⟩
theorem go_iinc {k : Nat} {d x : Int} (hd : decode (mB M) pc = .ok (.iinc k d, 3)) (hp : pc + 3 = pc') (h : L[k]? = some (some (pvI x))) (hr : r32 (x + d)) (hl : sto1 L k (pvI (x + d)) = L') (K : Go X E M pc' L' (st) w out) : Go X E M pc L (st) w out := by
  subst hp
  obtain ⟨f, K⟩ := id K
  have hl0 : wle w out.2.2 := Go.le (w := w) ⟨f, K⟩
  exact Go.mk hd hl0 ⟨f, x, rfl, h, hr, by rw [hl]; exact K⟩
theorem go_getI {i k j P : Nat} {o : Int} (hd : decode (mB M) pc = .ok (.getfield i, 3)) (hp : pc + 3 = pc') (hf : rFld (mC M) i = some (k, j)) (hz : (zFld k)[j]? = some (0, o)) (K : Go X E M pc' L (pvI (σ P j) :: st) (md, n, e, σ) out) : Go X E M pc L (pvR k 0 P :: st) (md, n, e, σ) out := by
  subst hp
  obtain ⟨f, K⟩ := id K
  have hl0 : wle (md, n, e, σ) out.2.2 := Go.le (w := (md, n, e, σ)) ⟨f, K⟩
  exact Go.mk hd hl0 ⟨f, k, j, P, _, _, st, rfl, hf, rfl, Or.inl rfl, by unfold fvG; rw [hz]; rfl, K⟩
theorem go_getIF {i j : Nat} {x o : Int} (hd : decode (mB M) pc = .ok (.getfield i, 3)) (hp : pc + 3 = pc') (hf : rFld (mC M) i = some (2, j)) (hz : (zFld 2)[j]? = some (0, o)) (hx : 0 ≤ x) (K : Go X E M pc' L (pvI (σ x.toNat j) :: st) (md, n, e, σ) out) : Go X E M pc L (pvF x :: st) (md, n, e, σ) out := by
  subst hp
  obtain ⟨f, K⟩ := id K
  have hl0 : wle (md, n, e, σ) out.2.2 := Go.le (w := (md, n, e, σ)) ⟨f, K⟩
  exact Go.mk hd hl0 ⟨f, 2, j, x.toNat, _, _, st, rfl, hf, rfl, Or.inr ⟨rfl, by rw [Int.toNat_of_nonneg hx]⟩, by unfold fvG; rw [hz]; rfl, K⟩
theorem go_getL {i k j P : Nat} {o : Int} (hd : decode (mB M) pc = .ok (.getfield i, 3)) (hp : pc + 3 = pc') (hf : rFld (mC M) i = some (k, j)) (hz : (zFld k)[j]? = some (1, o)) (K : Go X E M pc' L (pvL (σ P j) :: st) (md, n, e, σ) out) : Go X E M pc L (pvR k 0 P :: st) (md, n, e, σ) out := by
  subst hp
  obtain ⟨f, K⟩ := id K
  have hl0 : wle (md, n, e, σ) out.2.2 := Go.le (w := (md, n, e, σ)) ⟨f, K⟩
  exact Go.mk hd hl0 ⟨f, k, j, P, _, _, st, rfl, hf, rfl, Or.inl rfl, by unfold fvG; rw [hz]; rfl, K⟩
theorem go_getLF {i j : Nat} {x o : Int} (hd : decode (mB M) pc = .ok (.getfield i, 3)) (hp : pc + 3 = pc') (hf : rFld (mC M) i = some (2, j)) (hz : (zFld 2)[j]? = some (1, o)) (hx : 0 ≤ x) (K : Go X E M pc' L (pvL (σ x.toNat j) :: st) (md, n, e, σ) out) : Go X E M pc L (pvF x :: st) (md, n, e, σ) out := by
  subst hp
  obtain ⟨f, K⟩ := id K
  have hl0 : wle (md, n, e, σ) out.2.2 := Go.le (w := (md, n, e, σ)) ⟨f, K⟩
  exact Go.mk hd hl0 ⟨f, 2, j, x.toNat, _, _, st, rfl, hf, rfl, Or.inr ⟨rfl, by rw [Int.toNat_of_nonneg hx]⟩, by unfold fvG; rw [hz]; rfl, K⟩
theorem go_getZ {i k j P : Nat} {o : Int} (hd : decode (mB M) pc = .ok (.getfield i, 3)) (hp : pc + 3 = pc') (hf : rFld (mC M) i = some (k, j)) (hz : (zFld k)[j]? = some (2, o)) (K : Go X E M pc' L (pvI (σ P j) :: st) (md, n, e, σ) out) : Go X E M pc L (pvR k 0 P :: st) (md, n, e, σ) out := by
  subst hp
  obtain ⟨f, K⟩ := id K
  have hl0 : wle (md, n, e, σ) out.2.2 := Go.le (w := (md, n, e, σ)) ⟨f, K⟩
  exact Go.mk hd hl0 ⟨f, k, j, P, _, _, st, rfl, hf, rfl, Or.inl rfl, by unfold fvG; rw [hz]; rfl, K⟩
theorem go_getZF {i j : Nat} {x o : Int} (hd : decode (mB M) pc = .ok (.getfield i, 3)) (hp : pc + 3 = pc') (hf : rFld (mC M) i = some (2, j)) (hz : (zFld 2)[j]? = some (2, o)) (hx : 0 ≤ x) (K : Go X E M pc' L (pvI (σ x.toNat j) :: st) (md, n, e, σ) out) : Go X E M pc L (pvF x :: st) (md, n, e, σ) out := by
  subst hp
  obtain ⟨f, K⟩ := id K
  have hl0 : wle (md, n, e, σ) out.2.2 := Go.le (w := (md, n, e, σ)) ⟨f, K⟩
  exact Go.mk hd hl0 ⟨f, 2, j, x.toNat, _, _, st, rfl, hf, rfl, Or.inr ⟨rfl, by rw [Int.toNat_of_nonneg hx]⟩, by unfold fvG; rw [hz]; rfl, K⟩
theorem go_getF {i k j P : Nat} {o : Int} (hd : decode (mB M) pc = .ok (.getfield i, 3)) (hp : pc + 3 = pc') (hf : rFld (mC M) i = some (k, j)) (hz : (zFld k)[j]? = some (3, o)) (K : Go X E M pc' L (pvF (σ P j) :: st) (md, n, e, σ) out) : Go X E M pc L (pvR k 0 P :: st) (md, n, e, σ) out := by
  subst hp
  obtain ⟨f, K⟩ := id K
  have hl0 : wle (md, n, e, σ) out.2.2 := Go.le (w := (md, n, e, σ)) ⟨f, K⟩
  exact Go.mk hd hl0 ⟨f, k, j, P, _, _, st, rfl, hf, rfl, Or.inl rfl, by unfold fvG; rw [hz]; rfl, K⟩
theorem go_getR {i k j P k' L0 P' : Nat} {o : Int} (hd : decode (mB M) pc = .ok (.getfield i, 3)) (hp : pc + 3 = pc') (hf : rFld (mC M) i = some (k, j)) (hz : (zFld k)[j]? = some (4, o)) (ht : (zTgt k)[j]? = some (k', L0)) (hP : (P' : Int) = P + o) (K : Go X E M pc' L (pvR k' L0 P' :: st) (true, n, e, σ) out) : Go X E M pc L (pvR k 0 P :: st) (true, n, e, σ) out := by
  subst hp
  obtain ⟨f, K⟩ := id K
  have hl0 : wle (true, n, e, σ) out.2.2 := Go.le (w := (true, n, e, σ)) ⟨f, K⟩
  exact Go.mk hd hl0 ⟨f, k, j, P, _, _, st, rfl, hf, rfl, Or.inl rfl, by unfold fvG; rw [hz]; exact ⟨k', L0, P', ht, hP, rfl, Or.inl rfl⟩, K⟩
theorem go_getRC {i k j P k' L0 P' : Nat} {o : Int} (hd : decode (mB M) pc = .ok (.getfield i, 3)) (hp : pc + 3 = pc') (hf : rFld (mC M) i = some (k, j)) (hz : (zFld k)[j]? = some (4, o)) (ht : (zTgt k)[j]? = some (k', L0)) (hP : (P' : Int) = P + o) (hv : σ P j = P') (K : Go X E M pc' L (pvR k' L0 P' :: st) (md, n, e, σ) out) : Go X E M pc L (pvR k 0 P :: st) (md, n, e, σ) out := by
  subst hp
  obtain ⟨f, K⟩ := id K
  have hl0 : wle (md, n, e, σ) out.2.2 := Go.le (w := (md, n, e, σ)) ⟨f, K⟩
  exact Go.mk hd hl0 ⟨f, k, j, P, _, _, st, rfl, hf, rfl, Or.inl rfl, by unfold fvG; rw [hz]; exact ⟨k', L0, P', ht, hP, rfl, Or.inr hv⟩, K⟩
theorem go_getRF {i j k' L0 P' : Nat} {x o : Int} (hd : decode (mB M) pc = .ok (.getfield i, 3)) (hp : pc + 3 = pc') (hf : rFld (mC M) i = some (2, j)) (hz : (zFld 2)[j]? = some (4, o)) (ht : (zTgt 2)[j]? = some (k', L0)) (hx : 0 ≤ x) (hP : (P' : Int) = x + o) (K : Go X E M pc' L (pvR k' L0 P' :: st) (true, n, e, σ) out) : Go X E M pc L (pvF x :: st) (true, n, e, σ) out := by
  subst hp
  obtain ⟨f, K⟩ := id K
  have hl0 : wle (true, n, e, σ) out.2.2 := Go.le (w := (true, n, e, σ)) ⟨f, K⟩
  exact Go.mk hd hl0 ⟨f, 2, j, x.toNat, _, _, st, rfl, hf, rfl, Or.inr ⟨rfl, by rw [Int.toNat_of_nonneg hx]⟩, by unfold fvG; rw [hz]; exact ⟨k', L0, P', ht, by rw [hP, Int.toNat_of_nonneg hx], rfl, Or.inl rfl⟩, K⟩
theorem go_putI {i k j P : Nat} {o x : Int} (hd : decode (mB M) pc = .ok (.putfield i, 3)) (hp : pc + 3 = pc') (hf : rFld (mC M) i = some (k, j)) (hz : (zFld k)[j]? = some (0, o)) (K : Go X E M pc' L (st) (md, n, e, hset σ P j x) out) : Go X E M pc L (pvI x :: pvR k 0 P :: st) (md, n, e, σ) out := by
  subst hp
  obtain ⟨f, K⟩ := id K
  have hl0 : wle (md, n, e, σ) out.2.2 := Go.le (w := (md, n, e, hset σ P j x)) ⟨f, K⟩
  exact Go.mk hd hl0 ⟨f, k, j, P, _, _, x, st, rfl, hf, rfl, Or.inl rfl, by unfold fvP; rw [hz]; exact rfl, (fun h => by rw [hz] at h; cases h), K⟩
theorem go_putL {i k j P : Nat} {o x : Int} (hd : decode (mB M) pc = .ok (.putfield i, 3)) (hp : pc + 3 = pc') (hf : rFld (mC M) i = some (k, j)) (hz : (zFld k)[j]? = some (1, o)) (K : Go X E M pc' L (st) (md, n, e, hset σ P j x) out) : Go X E M pc L (pvL x :: pvR k 0 P :: st) (md, n, e, σ) out := by
  subst hp
  obtain ⟨f, K⟩ := id K
  have hl0 : wle (md, n, e, σ) out.2.2 := Go.le (w := (md, n, e, hset σ P j x)) ⟨f, K⟩
  exact Go.mk hd hl0 ⟨f, k, j, P, _, _, x, st, rfl, hf, rfl, Or.inl rfl, by unfold fvP; rw [hz]; exact rfl, (fun h => by rw [hz] at h; cases h), K⟩
theorem go_putZ {i k j P : Nat} {o x : Int} (hd : decode (mB M) pc = .ok (.putfield i, 3)) (hp : pc + 3 = pc') (hf : rFld (mC M) i = some (k, j)) (hz : (zFld k)[j]? = some (2, o)) (hx0 : 0 ≤ x ∧ x ≤ 1) (K : Go X E M pc' L (st) (md, n, e, hset σ P j x) out) : Go X E M pc L (pvI x :: pvR k 0 P :: st) (md, n, e, σ) out := by
  subst hp
  obtain ⟨f, K⟩ := id K
  have hl0 : wle (md, n, e, σ) out.2.2 := Go.le (w := (md, n, e, hset σ P j x)) ⟨f, K⟩
  exact Go.mk hd hl0 ⟨f, k, j, P, _, _, x, st, rfl, hf, rfl, Or.inl rfl, by unfold fvP; rw [hz]; exact ⟨rfl, hx0⟩, (fun h => by rw [hz] at h; cases h), K⟩
theorem go_putF {i k j P : Nat} {o x : Int} (hd : decode (mB M) pc = .ok (.putfield i, 3)) (hp : pc + 3 = pc') (hf : rFld (mC M) i = some (k, j)) (hz : (zFld k)[j]? = some (3, o)) (hx0 : 0 ≤ x) (K : Go X E M pc' L (st) (md, n, e, hset σ P j x) out) : Go X E M pc L (pvF x :: pvR k 0 P :: st) (md, n, e, σ) out := by
  subst hp
  obtain ⟨f, K⟩ := id K
  have hl0 : wle (md, n, e, σ) out.2.2 := Go.le (w := (md, n, e, hset σ P j x)) ⟨f, K⟩
  exact Go.mk hd hl0 ⟨f, k, j, P, _, _, x, st, rfl, hf, rfl, Or.inl rfl, by unfold fvP; rw [hz]; exact Or.inl ⟨rfl, hx0⟩, (fun h => by rw [hz] at h; cases h), K⟩
theorem go_putIF {i j : Nat} {y o x : Int} (hd : decode (mB M) pc = .ok (.putfield i, 3)) (hp : pc + 3 = pc') (hf : rFld (mC M) i = some (2, j)) (hz : (zFld 2)[j]? = some (0, o)) (hy : 0 ≤ y) (K : Go X E M pc' L (st) (md, n, e, hset σ y.toNat j x) out) : Go X E M pc L (pvI x :: pvF y :: st) (md, n, e, σ) out := by
  subst hp
  obtain ⟨f, K⟩ := id K
  have hl0 : wle (md, n, e, σ) out.2.2 := Go.le (w := (md, n, e, hset σ y.toNat j x)) ⟨f, K⟩
  exact Go.mk hd hl0 ⟨f, 2, j, y.toNat, _, _, x, st, rfl, hf, rfl, Or.inr ⟨rfl, by rw [Int.toNat_of_nonneg hy]⟩, by unfold fvP; rw [hz]; exact rfl, (fun h => by rw [hz] at h; cases h), K⟩
theorem go_putLF {i j : Nat} {y o x : Int} (hd : decode (mB M) pc = .ok (.putfield i, 3)) (hp : pc + 3 = pc') (hf : rFld (mC M) i = some (2, j)) (hz : (zFld 2)[j]? = some (1, o)) (hy : 0 ≤ y) (K : Go X E M pc' L (st) (md, n, e, hset σ y.toNat j x) out) : Go X E M pc L (pvL x :: pvF y :: st) (md, n, e, σ) out := by
  subst hp
  obtain ⟨f, K⟩ := id K
  have hl0 : wle (md, n, e, σ) out.2.2 := Go.le (w := (md, n, e, hset σ y.toNat j x)) ⟨f, K⟩
  exact Go.mk hd hl0 ⟨f, 2, j, y.toNat, _, _, x, st, rfl, hf, rfl, Or.inr ⟨rfl, by rw [Int.toNat_of_nonneg hy]⟩, by unfold fvP; rw [hz]; exact rfl, (fun h => by rw [hz] at h; cases h), K⟩
theorem go_putFR {i k j P P1 : Nat} {o : Int} (hd : decode (mB M) pc = .ok (.putfield i, 3)) (hp : pc + 3 = pc') (hf : rFld (mC M) i = some (k, j)) (hz : (zFld k)[j]? = some (3, o)) (K : Go X E M pc' L (st) (md, n, e, hset σ P j (P1 : Int)) out) : Go X E M pc L (pvR 2 0 P1 :: pvR k 0 P :: st) (md, n, e, σ) out := by
  subst hp
  obtain ⟨f, K⟩ := id K
  have hl0 : wle (md, n, e, σ) out.2.2 := Go.le (w := (md, n, e, hset σ P j (P1 : Int))) ⟨f, K⟩
  exact Go.mk hd hl0 ⟨f, k, j, P, _, _, _, st, rfl, hf, rfl, Or.inl rfl, by unfold fvP; rw [hz]; exact Or.inr ⟨P1, rfl, rfl⟩, (fun h => by rw [hz] at h; cases h), K⟩
theorem go_putR {i k j P k' L0 P' : Nat} {o : Int} (hd : decode (mB M) pc = .ok (.putfield i, 3)) (hp : pc + 3 = pc') (hf : rFld (mC M) i = some (k, j)) (hz : (zFld k)[j]? = some (4, o)) (ht : (zTgt k)[j]? = some (k', L0)) (hP : (P' : Int) = P + o) (hn : (mY M).name = "<init>" ∧ mC M = k) (K : Go X E M pc' L (st) (false, n, e, hset σ P j (P' : Int)) out) : Go X E M pc L (pvR k' L0 P' :: pvR k 0 P :: st) (false, n, e, σ) out := by
  subst hp
  obtain ⟨f, K⟩ := id K
  have hl0 : wle (false, n, e, σ) out.2.2 := Go.le (w := (false, n, e, hset σ P j (P' : Int))) ⟨f, K⟩
  exact Go.mk hd hl0 ⟨f, k, j, P, _, _, _, st, rfl, hf, rfl, Or.inl rfl, by unfold fvP; rw [hz]; exact ⟨rfl, k', L0, P', ht, hP, rfl, rfl⟩, (fun _ => hn), K⟩
theorem go_iald {i : Int} {L0 P : Nat} (hd : decode (mB M) pc = .ok (.iaload, 1)) (hp : pc + 1 = pc') (h : 0 ≤ i ∧ i < (L0 : Int)) (K : Go X E M pc' L (pvI (σ P i) :: st) (md, n, e, σ) out) : Go X E M pc L (pvI i :: pvR 12 L0 P :: st) (md, n, e, σ) out := by
  subst hp
  obtain ⟨f, K⟩ := id K
  have hl0 : wle (md, n, e, σ) out.2.2 := Go.le (w := (md, n, e, σ)) ⟨f, K⟩
  exact Go.mk hd hl0 ⟨f, i, _, st, rfl, rfl, h.1, Or.inl ⟨L0, P, rfl, h.2, K⟩⟩
theorem go_lald {i : Int} {L0 P : Nat} (hd : decode (mB M) pc = .ok (.laload, 1)) (hp : pc + 1 = pc') (h : 0 ≤ i ∧ i < (L0 : Int)) (K : Go X E M pc' L (pvL (σ P i) :: st) (md, n, e, σ) out) : Go X E M pc L (pvI i :: pvR 13 L0 P :: st) (md, n, e, σ) out := by
  subst hp
  obtain ⟨f, K⟩ := id K
  have hl0 : wle (md, n, e, σ) out.2.2 := Go.le (w := (md, n, e, σ)) ⟨f, K⟩
  exact Go.mk hd hl0 ⟨f, i, L0, P, st, rfl, rfl, h.1, h.2, K⟩
theorem go_zald {i : Int} {L0 P : Nat} (hd : decode (mB M) pc = .ok (.baload, 1)) (hp : pc + 1 = pc') (h : 0 ≤ i ∧ i < (L0 : Int)) (K : Go X E M pc' L (pvI (σ P i) :: st) (md, n, e, σ) out) : Go X E M pc L (pvI i :: pvR 14 L0 P :: st) (md, n, e, σ) out := by
  subst hp
  obtain ⟨f, K⟩ := id K
  have hl0 : wle (md, n, e, σ) out.2.2 := Go.le (w := (md, n, e, σ)) ⟨f, K⟩
  exact Go.mk hd hl0 ⟨f, i, L0, P, st, rfl, rfl, h.1, h.2, K⟩
theorem go_fald {i : Int} {L0 P : Nat} (hd : decode (mB M) pc = .ok (.aaload, 1)) (hp : pc + 1 = pc') (h : 0 ≤ i ∧ i < (L0 : Int)) (K : Go X E M pc' L (pvF (σ P i) :: st) (md, n, e, σ) out) : Go X E M pc L (pvI i :: pvR 15 L0 P :: st) (md, n, e, σ) out := by
  subst hp
  obtain ⟨f, K⟩ := id K
  have hl0 : wle (md, n, e, σ) out.2.2 := Go.le (w := (md, n, e, σ)) ⟨f, K⟩
  exact Go.mk hd hl0 ⟨f, i, L0, P, st, rfl, h.1, h.2, Or.inl ⟨rfl, K⟩⟩
theorem go_rald {i : Int} {P : Nat} (hd : decode (mB M) pc = .ok (.aaload, 1)) (hp : pc + 1 = pc') (h : 0 ≤ i ∧ i < ((13 : Nat) : Int)) (K : Go X E M pc' L (pvR 12 144 (P + 1 + i.toNat) :: st) (md, n, e, σ) out) : Go X E M pc L (pvI i :: pvR 16 13 P :: st) (md, n, e, σ) out := by
  subst hp
  obtain ⟨f, K⟩ := id K
  have hl0 : wle (md, n, e, σ) out.2.2 := Go.le (w := (md, n, e, σ)) ⟨f, K⟩
  exact Go.mk hd hl0 ⟨f, i, 13, P, st, rfl, h.1, h.2, Or.inr ⟨rfl, rfl, K⟩⟩
theorem go_sald {i : Int} {q : Nat × (Nat → Int32)} (hd : decode (mB M) pc = .ok (.iaload, 1)) (hp : pc + 1 = pc') (hX : X = some q) (h : 0 ≤ i ∧ i < (q.1 : Int)) (K : Go X E M pc' L (pvI (q.2 i.toNat).toInt :: st) w out) : Go X E M pc L (pvI i :: pvS :: st) w out := by
  subst hp
  obtain ⟨f, K⟩ := id K
  have hl0 : wle w out.2.2 := Go.le (w := w) ⟨f, K⟩
  exact Go.mk hd hl0 ⟨f, i, _, st, rfl, rfl, h.1, Or.inr ⟨q, hX, rfl, h.2, K⟩⟩
theorem go_slen {q : Nat × (Nat → Int32)} (hd : decode (mB M) pc = .ok (.arraylength, 1)) (hp : pc + 1 = pc') (hX : X = some q) (hr : r32 (q.1 : Int)) (K : Go X E M pc' L (pvI (q.1 : Int) :: st) w out) : Go X E M pc L (pvS :: st) w out := by
  subst hp
  obtain ⟨f, K⟩ := id K
  have hl0 : wle w out.2.2 := Go.le (w := w) ⟨f, K⟩
  exact Go.mk hd hl0 ⟨f, _, st, rfl, rfl, Or.inr ⟨q, hX, rfl, hr, K⟩⟩
theorem go_alen {L0 P : Nat} (hd : decode (mB M) pc = .ok (.arraylength, 1)) (hp : pc + 1 = pc') (hr : r32 (L0 : Int)) (K : Go X E M pc' L (pvI (L0 : Int) :: st) w out) : Go X E M pc L (pvR 12 L0 P :: st) w out := by
  subst hp
  obtain ⟨f, K⟩ := id K
  have hl0 : wle w out.2.2 := Go.le (w := w) ⟨f, K⟩
  exact Go.mk hd hl0 ⟨f, _, st, rfl, rfl, Or.inl ⟨L0, P, rfl, hr, K⟩⟩
theorem go_iast {x i : Int} {L0 P : Nat} (hd : decode (mB M) pc = .ok (.iastore, 1)) (hp : pc + 1 = pc') (h : 0 ≤ i ∧ i < (L0 : Int)) (K : Go X E M pc' L (st) (md, n, e, hset σ P i x) out) : Go X E M pc L (pvI x :: pvI i :: pvR 12 L0 P :: st) (md, n, e, σ) out := by
  subst hp
  obtain ⟨f, K⟩ := id K
  have hl0 : wle (md, n, e, σ) out.2.2 := Go.le (w := (md, n, e, hset σ P i x)) ⟨f, K⟩
  exact Go.mk hd hl0 ⟨f, x, i, L0, P, st, rfl, rfl, h.1, h.2, K⟩
theorem go_last {x i : Int} {L0 P : Nat} (hd : decode (mB M) pc = .ok (.lastore, 1)) (hp : pc + 1 = pc') (h : 0 ≤ i ∧ i < (L0 : Int)) (K : Go X E M pc' L (st) (md, n, e, hset σ P i x) out) : Go X E M pc L (pvL x :: pvI i :: pvR 13 L0 P :: st) (md, n, e, σ) out := by
  subst hp
  obtain ⟨f, K⟩ := id K
  have hl0 : wle (md, n, e, σ) out.2.2 := Go.le (w := (md, n, e, hset σ P i x)) ⟨f, K⟩
  exact Go.mk hd hl0 ⟨f, x, i, L0, P, st, rfl, rfl, h.1, h.2, K⟩
theorem go_zast {x i : Int} {L0 P : Nat} (hd : decode (mB M) pc = .ok (.bastore, 1)) (hp : pc + 1 = pc') (h : 0 ≤ i ∧ i < (L0 : Int)) (hx : 0 ≤ x ∧ x ≤ 1) (K : Go X E M pc' L (st) (md, n, e, hset σ P i x) out) : Go X E M pc L (pvI x :: pvI i :: pvR 14 L0 P :: st) (md, n, e, σ) out := by
  subst hp
  obtain ⟨f, K⟩ := id K
  have hl0 : wle (md, n, e, σ) out.2.2 := Go.le (w := (md, n, e, hset σ P i x)) ⟨f, K⟩
  exact Go.mk hd hl0 ⟨f, x, i, L0, P, st, rfl, rfl, h.1, h.2, hx.1, hx.2, K⟩
theorem go_fast {x i : Int} {L0 P : Nat} (hd : decode (mB M) pc = .ok (.aastore, 1)) (hp : pc + 1 = pc') (h : 0 ≤ i ∧ i < (L0 : Int)) (hx : 0 ≤ x) (K : Go X E M pc' L (st) (md, n, e, hset σ P i x) out) : Go X E M pc L (pvF x :: pvI i :: pvR 15 L0 P :: st) (md, n, e, σ) out := by
  subst hp
  obtain ⟨f, K⟩ := id K
  have hl0 : wle (md, n, e, σ) out.2.2 := Go.le (w := (md, n, e, hset σ P i x)) ⟨f, K⟩
  exact Go.mk hd hl0 ⟨f, x, i, L0, P, st, rfl, rfl, h.1, h.2, hx, K⟩
theorem go_iadd {x y : Int} (hd : decode (mB M) pc = .ok (.iadd, 1)) (hp : pc + 1 = pc') (hr : r32 (x + y)) (K : Go X E M pc' L (pvI (x + y) :: st) w out) : Go X E M pc L (pvI y :: pvI x :: st) w out := by
  subst hp
  obtain ⟨f, K⟩ := id K
  have hl0 : wle w out.2.2 := Go.le (w := w) ⟨f, K⟩
  exact Go.mk hd hl0 ⟨f, x, y, st, rfl, rfl, hr, K⟩
theorem go_isub {x y : Int} (hd : decode (mB M) pc = .ok (.isub, 1)) (hp : pc + 1 = pc') (hr : r32 (x - y)) (K : Go X E M pc' L (pvI (x - y) :: st) w out) : Go X E M pc L (pvI y :: pvI x :: st) w out := by
  subst hp
  obtain ⟨f, K⟩ := id K
  have hl0 : wle w out.2.2 := Go.le (w := w) ⟨f, K⟩
  exact Go.mk hd hl0 ⟨f, x, y, st, rfl, rfl, hr, K⟩
theorem go_imul {x y : Int} (hd : decode (mB M) pc = .ok (.imul, 1)) (hp : pc + 1 = pc') (hr : r32 (x * y)) (K : Go X E M pc' L (pvI (x * y) :: st) w out) : Go X E M pc L (pvI y :: pvI x :: st) w out := by
  subst hp
  obtain ⟨f, K⟩ := id K
  have hl0 : wle w out.2.2 := Go.le (w := w) ⟨f, K⟩
  exact Go.mk hd hl0 ⟨f, x, y, st, rfl, rfl, hr, K⟩
theorem go_idiv {x y : Int} (hd : decode (mB M) pc = .ok (.idiv, 1)) (hp : pc + 1 = pc') (hr : 0 < y) (K : Go X E M pc' L (pvI (x.tdiv y) :: st) w out) : Go X E M pc L (pvI y :: pvI x :: st) w out := by
  subst hp
  obtain ⟨f, K⟩ := id K
  have hl0 : wle w out.2.2 := Go.le (w := w) ⟨f, K⟩
  exact Go.mk hd hl0 ⟨f, x, y, st, rfl, rfl, hr, K⟩
theorem go_irem {x y : Int} (hd : decode (mB M) pc = .ok (.irem, 1)) (hp : pc + 1 = pc') (hr : 0 < y) (K : Go X E M pc' L (pvI (x.tmod y) :: st) w out) : Go X E M pc L (pvI y :: pvI x :: st) w out := by
  subst hp
  obtain ⟨f, K⟩ := id K
  have hl0 : wle w out.2.2 := Go.le (w := w) ⟨f, K⟩
  exact Go.mk hd hl0 ⟨f, x, y, st, rfl, rfl, hr, K⟩
theorem go_ladd {x y : Int} (hd : decode (mB M) pc = .ok (.ladd, 1)) (hp : pc + 1 = pc') (hr : r64 (x + y)) (K : Go X E M pc' L (pvL (x + y) :: st) w out) : Go X E M pc L (pvL y :: pvL x :: st) w out := by
  subst hp
  obtain ⟨f, K⟩ := id K
  have hl0 : wle w out.2.2 := Go.le (w := w) ⟨f, K⟩
  exact Go.mk hd hl0 ⟨f, x, y, st, rfl, rfl, hr, K⟩
theorem go_lsub {x y : Int} (hd : decode (mB M) pc = .ok (.lsub, 1)) (hp : pc + 1 = pc') (hr : r64 (x - y)) (K : Go X E M pc' L (pvL (x - y) :: st) w out) : Go X E M pc L (pvL y :: pvL x :: st) w out := by
  subst hp
  obtain ⟨f, K⟩ := id K
  have hl0 : wle w out.2.2 := Go.le (w := w) ⟨f, K⟩
  exact Go.mk hd hl0 ⟨f, x, y, st, rfl, rfl, hr, K⟩
theorem go_lmul {x y : Int} (hd : decode (mB M) pc = .ok (.lmul, 1)) (hp : pc + 1 = pc') (hr : r64 (x * y)) (K : Go X E M pc' L (pvL (x * y) :: st) w out) : Go X E M pc L (pvL y :: pvL x :: st) w out := by
  subst hp
  obtain ⟨f, K⟩ := id K
  have hl0 : wle w out.2.2 := Go.le (w := w) ⟨f, K⟩
  exact Go.mk hd hl0 ⟨f, x, y, st, rfl, rfl, hr, K⟩
theorem go_lrem {x y : Int} (hd : decode (mB M) pc = .ok (.lrem, 1)) (hp : pc + 1 = pc') (hr : 0 < y) (K : Go X E M pc' L (pvL (x.tmod y) :: st) w out) : Go X E M pc L (pvL y :: pvL x :: st) w out := by
  subst hp
  obtain ⟨f, K⟩ := id K
  have hl0 : wle w out.2.2 := Go.le (w := w) ⟨f, K⟩
  exact Go.mk hd hl0 ⟨f, x, y, st, rfl, rfl, hr, K⟩
theorem go_ldiv {x y : Int} (hd : decode (mB M) pc = .ok (.ldiv, 1)) (hp : pc + 1 = pc') (hr : y ≠ 0 ∧ r64 (x.tdiv y)) (K : Go X E M pc' L (pvL (x.tdiv y) :: st) w out) : Go X E M pc L (pvL y :: pvL x :: st) w out := by
  subst hp
  obtain ⟨f, K⟩ := id K
  have hl0 : wle w out.2.2 := Go.le (w := w) ⟨f, K⟩
  exact Go.mk hd hl0 ⟨f, x, y, st, rfl, rfl, hr.1, hr.2, K⟩
theorem go_iand {x y : Int} (hd : decode (mB M) pc = .ok (.iand, 1)) (hp : pc + 1 = pc') (K : Go X E M pc' L (pvI (iand x y) :: st) w out) : Go X E M pc L (pvI y :: pvI x :: st) w out := by
  subst hp
  obtain ⟨f, K⟩ := id K
  have hl0 : wle w out.2.2 := Go.le (w := w) ⟨f, K⟩
  exact Go.mk hd hl0 ⟨f, x, y, st, rfl, rfl, K⟩
theorem go_ior {x y : Int} (hd : decode (mB M) pc = .ok (.ior, 1)) (hp : pc + 1 = pc') (K : Go X E M pc' L (pvI (ior x y) :: st) w out) : Go X E M pc L (pvI y :: pvI x :: st) w out := by
  subst hp
  obtain ⟨f, K⟩ := id K
  have hl0 : wle w out.2.2 := Go.le (w := w) ⟨f, K⟩
  exact Go.mk hd hl0 ⟨f, x, y, st, rfl, rfl, K⟩
theorem go_ishl {x y : Int} (hd : decode (mB M) pc = .ok (.ishl, 1)) (hp : pc + 1 = pc') (K : Go X E M pc' L (pvI (ishl x y) :: st) w out) : Go X E M pc L (pvI y :: pvI x :: st) w out := by
  subst hp
  obtain ⟨f, K⟩ := id K
  have hl0 : wle w out.2.2 := Go.le (w := w) ⟨f, K⟩
  exact Go.mk hd hl0 ⟨f, x, y, st, rfl, rfl, K⟩
theorem go_ishr {x y : Int} (hd : decode (mB M) pc = .ok (.ishr, 1)) (hp : pc + 1 = pc') (K : Go X E M pc' L (pvI (ishr x y) :: st) w out) : Go X E M pc L (pvI y :: pvI x :: st) w out := by
  subst hp
  obtain ⟨f, K⟩ := id K
  have hl0 : wle w out.2.2 := Go.le (w := w) ⟨f, K⟩
  exact Go.mk hd hl0 ⟨f, x, y, st, rfl, rfl, K⟩
theorem go_iushr {x y : Int} (hd : decode (mB M) pc = .ok (.iushr, 1)) (hp : pc + 1 = pc') (K : Go X E M pc' L (pvI (iushr x y) :: st) w out) : Go X E M pc L (pvI y :: pvI x :: st) w out := by
  subst hp
  obtain ⟨f, K⟩ := id K
  have hl0 : wle w out.2.2 := Go.le (w := w) ⟨f, K⟩
  exact Go.mk hd hl0 ⟨f, x, y, st, rfl, rfl, K⟩
theorem go_lcmp {x y : Int} (hd : decode (mB M) pc = .ok (.lcmp, 1)) (hp : pc + 1 = pc') (K : Go X E M pc' L (pvI (lcm x y) :: st) w out) : Go X E M pc L (pvL y :: pvL x :: st) w out := by
  subst hp
  obtain ⟨f, K⟩ := id K
  have hl0 : wle w out.2.2 := Go.le (w := w) ⟨f, K⟩
  exact Go.mk hd hl0 ⟨f, x, y, st, rfl, rfl, K⟩
theorem go_lneg {x : Int} (hd : decode (mB M) pc = .ok (.lneg, 1)) (hp : pc + 1 = pc') (hr : r64 (-x)) (K : Go X E M pc' L (pvL (-x) :: st) w out) : Go X E M pc L (pvL x :: st) w out := by
  subst hp
  obtain ⟨f, K⟩ := id K
  have hl0 : wle w out.2.2 := Go.le (w := w) ⟨f, K⟩
  exact Go.mk hd hl0 ⟨f, x, st, rfl, rfl, hr, K⟩
theorem go_i2l {x : Int} (hd : decode (mB M) pc = .ok (.i2l, 1)) (hp : pc + 1 = pc') (K : Go X E M pc' L (pvL x :: st) w out) : Go X E M pc L (pvI x :: st) w out := by
  subst hp
  obtain ⟨f, K⟩ := id K
  have hl0 : wle w out.2.2 := Go.le (w := w) ⟨f, K⟩
  exact Go.mk hd hl0 ⟨f, x, st, rfl, rfl, K⟩
theorem go_l2i {x : Int} (hd : decode (mB M) pc = .ok (.l2i, 1)) (hp : pc + 1 = pc') (hr : r32 x) (K : Go X E M pc' L (pvI x :: st) w out) : Go X E M pc L (pvL x :: st) w out := by
  subst hp
  obtain ⟨f, K⟩ := id K
  have hl0 : wle w out.2.2 := Go.le (w := w) ⟨f, K⟩
  exact Go.mk hd hl0 ⟨f, x, st, rfl, rfl, hr, K⟩
theorem go_dup {v : PV} (hd : decode (mB M) pc = .ok (.dup, 1)) (hp : pc + 1 = pc') (hv : v.1 ≠ 1) (K : Go X E M pc' L (v :: v :: st) w out) : Go X E M pc L (v :: st) w out := by
  subst hp
  obtain ⟨f, K⟩ := id K
  have hl0 : wle w out.2.2 := Go.le (w := w) ⟨f, K⟩
  exact Go.mk hd hl0 ⟨f, v, st, rfl, rfl, hv, K⟩
theorem go_dup2 {v u : PV} (hd : decode (mB M) pc = .ok (.dup2, 1)) (hp : pc + 1 = pc') (hv : v.1 ≠ 1) (hu : u.1 ≠ 1) (K : Go X E M pc' L (v :: u :: v :: u :: st) w out) : Go X E M pc L (v :: u :: st) w out := by
  subst hp
  obtain ⟨f, K⟩ := id K
  have hl0 : wle w out.2.2 := Go.le (w := w) ⟨f, K⟩
  exact Go.mk hd hl0 ⟨f, v, u, st, rfl, rfl, hv, hu, K⟩
theorem go_pop {v : PV} (hd : decode (mB M) pc = .ok (.pop, 1)) (hp : pc + 1 = pc') (hv : v.1 ≠ 1) (K : Go X E M pc' L (st) w out) : Go X E M pc L (v :: st) w out := by
  subst hp
  obtain ⟨f, K⟩ := id K
  have hl0 : wle w out.2.2 := Go.le (w := w) ⟨f, K⟩
  exact Go.mk hd hl0 ⟨f, v, st, rfl, rfl, hv, K⟩
theorem go_if_eq {x : Int} {off : Int} {t : Nat} (hd : decode (mB M) pc = .ok (.ifCond .eq off, 3)) (ht : (pc : Int) + off = t) (hp : pc + 3 = pc') (K1 : x = 0 → Go X E M t L st w out) (K2 : ¬ (x = 0) → Go X E M pc' L st w out) : Go X E M pc L (pvI x :: st) w out := by
  subst hp
  by_cases h : x = 0
  · obtain ⟨f, K⟩ := id (K1 h)
    exact Go.mk hd (K1 h).le ⟨f, x, st, t, rfl, rfl, ht, (fun _ => K), (fun g => absurd h g)⟩
  · obtain ⟨f, K⟩ := id (K2 h)
    exact Go.mk hd (K2 h).le ⟨f, x, st, t, rfl, rfl, ht, (fun g => absurd g h), (fun _ => K)⟩
theorem go_icmp_eq {x y : Int} {off : Int} {t : Nat} (hd : decode (mB M) pc = .ok (.if_icmp .eq off, 3)) (ht : (pc : Int) + off = t) (hp : pc + 3 = pc') (K1 : x = y → Go X E M t L st w out) (K2 : ¬ (x = y) → Go X E M pc' L st w out) : Go X E M pc L (pvI y :: pvI x :: st) w out := by
  subst hp
  by_cases h : x = y
  · obtain ⟨f, K⟩ := id (K1 h)
    exact Go.mk hd (K1 h).le ⟨f, x, y, st, t, rfl, rfl, ht, (fun _ => K), (fun g => absurd h g)⟩
  · obtain ⟨f, K⟩ := id (K2 h)
    exact Go.mk hd (K2 h).le ⟨f, x, y, st, t, rfl, rfl, ht, (fun g => absurd g h), (fun _ => K)⟩
theorem go_if_ne {x : Int} {off : Int} {t : Nat} (hd : decode (mB M) pc = .ok (.ifCond .ne off, 3)) (ht : (pc : Int) + off = t) (hp : pc + 3 = pc') (K1 : x ≠ 0 → Go X E M t L st w out) (K2 : ¬ (x ≠ 0) → Go X E M pc' L st w out) : Go X E M pc L (pvI x :: st) w out := by
  subst hp
  by_cases h : x ≠ 0
  · obtain ⟨f, K⟩ := id (K1 h)
    exact Go.mk hd (K1 h).le ⟨f, x, st, t, rfl, rfl, ht, (fun _ => K), (fun g => absurd h g)⟩
  · obtain ⟨f, K⟩ := id (K2 h)
    exact Go.mk hd (K2 h).le ⟨f, x, st, t, rfl, rfl, ht, (fun g => absurd g h), (fun _ => K)⟩
theorem go_icmp_ne {x y : Int} {off : Int} {t : Nat} (hd : decode (mB M) pc = .ok (.if_icmp .ne off, 3)) (ht : (pc : Int) + off = t) (hp : pc + 3 = pc') (K1 : x ≠ y → Go X E M t L st w out) (K2 : ¬ (x ≠ y) → Go X E M pc' L st w out) : Go X E M pc L (pvI y :: pvI x :: st) w out := by
  subst hp
  by_cases h : x ≠ y
  · obtain ⟨f, K⟩ := id (K1 h)
    exact Go.mk hd (K1 h).le ⟨f, x, y, st, t, rfl, rfl, ht, (fun _ => K), (fun g => absurd h g)⟩
  · obtain ⟨f, K⟩ := id (K2 h)
    exact Go.mk hd (K2 h).le ⟨f, x, y, st, t, rfl, rfl, ht, (fun g => absurd g h), (fun _ => K)⟩
theorem go_if_lt {x : Int} {off : Int} {t : Nat} (hd : decode (mB M) pc = .ok (.ifCond .lt off, 3)) (ht : (pc : Int) + off = t) (hp : pc + 3 = pc') (K1 : x < 0 → Go X E M t L st w out) (K2 : ¬ (x < 0) → Go X E M pc' L st w out) : Go X E M pc L (pvI x :: st) w out := by
  subst hp
  by_cases h : x < 0
  · obtain ⟨f, K⟩ := id (K1 h)
    exact Go.mk hd (K1 h).le ⟨f, x, st, t, rfl, rfl, ht, (fun _ => K), (fun g => absurd h g)⟩
  · obtain ⟨f, K⟩ := id (K2 h)
    exact Go.mk hd (K2 h).le ⟨f, x, st, t, rfl, rfl, ht, (fun g => absurd g h), (fun _ => K)⟩
theorem go_icmp_lt {x y : Int} {off : Int} {t : Nat} (hd : decode (mB M) pc = .ok (.if_icmp .lt off, 3)) (ht : (pc : Int) + off = t) (hp : pc + 3 = pc') (K1 : x < y → Go X E M t L st w out) (K2 : ¬ (x < y) → Go X E M pc' L st w out) : Go X E M pc L (pvI y :: pvI x :: st) w out := by
  subst hp
  by_cases h : x < y
  · obtain ⟨f, K⟩ := id (K1 h)
    exact Go.mk hd (K1 h).le ⟨f, x, y, st, t, rfl, rfl, ht, (fun _ => K), (fun g => absurd h g)⟩
  · obtain ⟨f, K⟩ := id (K2 h)
    exact Go.mk hd (K2 h).le ⟨f, x, y, st, t, rfl, rfl, ht, (fun g => absurd g h), (fun _ => K)⟩
theorem go_if_ge {x : Int} {off : Int} {t : Nat} (hd : decode (mB M) pc = .ok (.ifCond .ge off, 3)) (ht : (pc : Int) + off = t) (hp : pc + 3 = pc') (K1 : 0 ≤ x → Go X E M t L st w out) (K2 : ¬ (0 ≤ x) → Go X E M pc' L st w out) : Go X E M pc L (pvI x :: st) w out := by
  subst hp
  by_cases h : 0 ≤ x
  · obtain ⟨f, K⟩ := id (K1 h)
    exact Go.mk hd (K1 h).le ⟨f, x, st, t, rfl, rfl, ht, (fun _ => K), (fun g => absurd h g)⟩
  · obtain ⟨f, K⟩ := id (K2 h)
    exact Go.mk hd (K2 h).le ⟨f, x, st, t, rfl, rfl, ht, (fun g => absurd g h), (fun _ => K)⟩
theorem go_icmp_ge {x y : Int} {off : Int} {t : Nat} (hd : decode (mB M) pc = .ok (.if_icmp .ge off, 3)) (ht : (pc : Int) + off = t) (hp : pc + 3 = pc') (K1 : y ≤ x → Go X E M t L st w out) (K2 : ¬ (y ≤ x) → Go X E M pc' L st w out) : Go X E M pc L (pvI y :: pvI x :: st) w out := by
  subst hp
  by_cases h : y ≤ x
  · obtain ⟨f, K⟩ := id (K1 h)
    exact Go.mk hd (K1 h).le ⟨f, x, y, st, t, rfl, rfl, ht, (fun _ => K), (fun g => absurd h g)⟩
  · obtain ⟨f, K⟩ := id (K2 h)
    exact Go.mk hd (K2 h).le ⟨f, x, y, st, t, rfl, rfl, ht, (fun g => absurd g h), (fun _ => K)⟩
theorem go_if_gt {x : Int} {off : Int} {t : Nat} (hd : decode (mB M) pc = .ok (.ifCond .gt off, 3)) (ht : (pc : Int) + off = t) (hp : pc + 3 = pc') (K1 : 0 < x → Go X E M t L st w out) (K2 : ¬ (0 < x) → Go X E M pc' L st w out) : Go X E M pc L (pvI x :: st) w out := by
  subst hp
  by_cases h : 0 < x
  · obtain ⟨f, K⟩ := id (K1 h)
    exact Go.mk hd (K1 h).le ⟨f, x, st, t, rfl, rfl, ht, (fun _ => K), (fun g => absurd h g)⟩
  · obtain ⟨f, K⟩ := id (K2 h)
    exact Go.mk hd (K2 h).le ⟨f, x, st, t, rfl, rfl, ht, (fun g => absurd g h), (fun _ => K)⟩
theorem go_icmp_gt {x y : Int} {off : Int} {t : Nat} (hd : decode (mB M) pc = .ok (.if_icmp .gt off, 3)) (ht : (pc : Int) + off = t) (hp : pc + 3 = pc') (K1 : y < x → Go X E M t L st w out) (K2 : ¬ (y < x) → Go X E M pc' L st w out) : Go X E M pc L (pvI y :: pvI x :: st) w out := by
  subst hp
  by_cases h : y < x
  · obtain ⟨f, K⟩ := id (K1 h)
    exact Go.mk hd (K1 h).le ⟨f, x, y, st, t, rfl, rfl, ht, (fun _ => K), (fun g => absurd h g)⟩
  · obtain ⟨f, K⟩ := id (K2 h)
    exact Go.mk hd (K2 h).le ⟨f, x, y, st, t, rfl, rfl, ht, (fun g => absurd g h), (fun _ => K)⟩
theorem go_if_le {x : Int} {off : Int} {t : Nat} (hd : decode (mB M) pc = .ok (.ifCond .le off, 3)) (ht : (pc : Int) + off = t) (hp : pc + 3 = pc') (K1 : x ≤ 0 → Go X E M t L st w out) (K2 : ¬ (x ≤ 0) → Go X E M pc' L st w out) : Go X E M pc L (pvI x :: st) w out := by
  subst hp
  by_cases h : x ≤ 0
  · obtain ⟨f, K⟩ := id (K1 h)
    exact Go.mk hd (K1 h).le ⟨f, x, st, t, rfl, rfl, ht, (fun _ => K), (fun g => absurd h g)⟩
  · obtain ⟨f, K⟩ := id (K2 h)
    exact Go.mk hd (K2 h).le ⟨f, x, st, t, rfl, rfl, ht, (fun g => absurd g h), (fun _ => K)⟩
theorem go_icmp_le {x y : Int} {off : Int} {t : Nat} (hd : decode (mB M) pc = .ok (.if_icmp .le off, 3)) (ht : (pc : Int) + off = t) (hp : pc + 3 = pc') (K1 : x ≤ y → Go X E M t L st w out) (K2 : ¬ (x ≤ y) → Go X E M pc' L st w out) : Go X E M pc L (pvI y :: pvI x :: st) w out := by
  subst hp
  by_cases h : x ≤ y
  · obtain ⟨f, K⟩ := id (K1 h)
    exact Go.mk hd (K1 h).le ⟨f, x, y, st, t, rfl, rfl, ht, (fun _ => K), (fun g => absurd h g)⟩
  · obtain ⟨f, K⟩ := id (K2 h)
    exact Go.mk hd (K2 h).le ⟨f, x, y, st, t, rfl, rfl, ht, (fun g => absurd g h), (fun _ => K)⟩
theorem go_ifnn {x : Int} {off : Int} {t : Nat} (hd : decode (mB M) pc = .ok (.ifnonnull off, 3)) (ht : (pc : Int) + off = t) (hp : pc + 3 = pc') (K1 : 0 ≤ x → Go X E M t L st w out) (K2 : ¬ (0 ≤ x) → Go X E M pc' L st w out) : Go X E M pc L (pvF x :: st) w out := by
  subst hp
  by_cases h : 0 ≤ x
  · obtain ⟨f, K⟩ := id (K1 h)
    exact Go.mk hd (K1 h).le ⟨f, x, st, t, rfl, rfl, ht, (fun _ => K), (fun g => absurd h g)⟩
  · obtain ⟨f, K⟩ := id (K2 h)
    exact Go.mk hd (K2 h).le ⟨f, x, st, t, rfl, rfl, ht, (fun g => absurd g h), (fun _ => K)⟩
theorem go_goto {off : Int} {t : Nat} (hd : decode (mB M) pc = .ok (.goto off, 3)) (ht : (pc : Int) + off = t) (K : Go X E M t L st w out) : Go X E M pc L st w out := by
  obtain ⟨f, K⟩ := id K
  exact Go.mk hd (Go.le ⟨f, K⟩) ⟨f, t, rfl, ht, K⟩
theorem go_table {dflt lo hi off x : Int} {offs : Array Int} {len t : Nat} (hd : decode (mB M) pc = .ok (.tableswitch dflt lo hi offs, len)) (h : ((x < lo ∨ hi < x) ∧ off = dflt) ∨ (¬ x < lo ∧ ¬ hi < x ∧ offs[(x - lo).toNat]? = some off)) (ht : (pc : Int) + off = t) (K : Go X E M t L st w out) : Go X E M pc L (pvI x :: st) w out := by
  obtain ⟨f, K⟩ := id K
  exact Go.mk hd (Go.le ⟨f, K⟩) ⟨f, x, st, off, t, rfl, h, ht, K⟩
theorem go_iret {x : Int} (hd : decode (mB M) pc = .ok (.ireturn, 1)) (h : mR M = some .int) (ho : out = (0, some (pvI x), w)) : Go X E M pc L [pvI x] w out :=
  Go.mk hd (by rw [ho]; exact le.refl _) ⟨0, x, rfl, rfl, Or.inl h, ho⟩
theorem go_zret {x : Int} (hd : decode (mB M) pc = .ok (.ireturn, 1)) (h : mR M = some .boolean) (hx : 0 ≤ x ∧ x ≤ 1) (ho : out = (0, some (pvI x), w)) : Go X E M pc L [pvI x] w out :=
  Go.mk hd (by rw [ho]; exact le.refl _) ⟨0, x, rfl, rfl, Or.inr ⟨h, hx⟩, ho⟩
theorem go_lret {x : Int} (hd : decode (mB M) pc = .ok (.lreturn, 1)) (h : mR M = some .long) (ho : out = (0, some (pvL x), w)) : Go X E M pc L [pvL x] w out :=
  Go.mk hd (by rw [ho]; exact le.refl _) ⟨0, x, rfl, rfl, h, ho⟩
theorem go_aret {v : PV} {nm : String} (hd : decode (mB M) pc = .ok (.areturn, 1)) (h2 : 2 ≤ v.1) (h3 : v.1 ≠ 3) (h : mR M = some (.object nm)) (ho : out = (0, some v, w)) : Go X E M pc L [v] w out :=
  Go.mk hd (by rw [ho]; exact le.refl _) ⟨0, v, nm, rfl, rfl, h2, h3, Or.inl h, ho⟩
theorem go_vret (hd : decode (mB M) pc = .ok (.return_, 1)) (h : mR M = none) (ho : out = (0, none, w)) : Go X E M pc L [] w out :=
  Go.mk hd (by rw [ho]; exact le.refl _) ⟨0, rfl, rfl, h, ho⟩
theorem go_throw {x is ic ln idx : Nat} {tx : String} (hd : decode (mB M) pc = .ok (.new idx, 3)) (h1 : rThr (mC M) idx = some x) (h10 : mC M = 10) (hh : mH M = []) (hs : catS st ≤ 8) (d3 : decode (mB M) (pc + 3) = .ok (.dup, 1)) (d4 : (decode (mB M) (pc + 4) = .ok (.ldc is, 2) ∧ ln = 2) ∨ (decode (mB M) (pc + 4) = .ok (.ldc_w is, 3) ∧ ln = 3)) (d5 : decode (mB M) (pc + 4 + ln) = .ok (.invokespecial ic, 3)) (d6 : decode (mB M) (pc + 7 + ln) = .ok (.athrow, 1)) (hic : (x = 1 ∧ ic = 112) ∨ (x = 2 ∧ ic = 274) ∨ (x = 3 ∧ ic = 339)) (hstr : ("Cubecaller", is, tx) ∈ zStr) (ho : out = (x, none, w.1, w.2.1, w.2.2.1 + 1, w.2.2.2)) : Go X E M pc L st w out :=
  Go.mk hd (by rw [ho]; exact ⟨nle.refl _, Nat.le_succ _⟩) ⟨0, rfl, Or.inl ⟨x, is, ic, ln, h1, h10, hh, hs, d3, d4, d5, d6, hic, ⟨tx, hstr⟩, ho⟩⟩
theorem go_formula {idx : Nat} (hd : decode (mB M) pc = .ok (.new idx, 3)) (hp : pc + 7 = pc') (hi : rNew (mC M) idx = some 2) (h10 : mC M = 10) (hs : catS st ≤ 6) (d3 : decode (mB M) (pc + 3) = .ok (.dup, 1)) (d4 : decode (mB M) (pc + 4) = .ok (.invokespecial 57, 3)) (h44 : n % 1048576 + 4 < 1048576) (K : Go X E M pc' L (pvF ((n % 1048576 : Nat) : Int) :: st) (true, n + 4, e, zFormula σ (n % 1048576)) out) : Go X E M pc L st (true, n, e, σ) out := by
  subst hp
  have hl := K.le
  obtain ⟨f, K⟩ := id K
  have h9 : nle n (n + 4) := by unfold nle; omega
  exact Go.mk hd ⟨h9.trans hl.1, hl.2⟩ ⟨f, rfl, Or.inr (Or.inl ⟨rfl, hi, h10, hs, d3, d4, h44, K⟩)⟩
theorem go_newT {z : Int} (hd : decode (mB M) pc = .ok (.newarray .int, 2)) (hp : pc + 2 = pc') (hz : z = 60) (K : Go X E M pc' L (pvR 12 60 (1048576 + n / 1048576) :: st) (true, n + 1048576, e, zTmp σ (1048576 + n / 1048576)) out) : Go X E M pc L (pvI z :: st) (true, n, e, σ) out := by
  subst hp
  subst hz
  have hl := K.le
  obtain ⟨f, K⟩ := id K
  exact Go.mk hd ⟨(inn_T n).2.2.2.1.trans hl.1, hl.2⟩ ⟨f, Or.inr ⟨st, rfl, rfl, rfl, rfl, K⟩⟩
theorem go_scr {q : Nat × (Nat → Int32)} {k : Int} {idx : Nat} {r : List PV} (hX : X = some q) (hd : decode (mB M) pc = .ok (.invokestatic idx, 3)) (hp : pc + 3 = pc') (h1 : rMth (mC M) idx = some (1, zScr)) (hst : st = pvI k :: pvS :: r) (hc : catS r ≤ 8) (h2 : 0 ≤ k ∧ k ≤ 700 ∧ (q.1 : Int) < 2147483648) (K : Go X E M pc' L (pvI (scrV q k) :: r) w out) : Go X E M pc L st w out := by
  subst hp
  subst hst
  obtain ⟨f, K⟩ := id K
  exact Go.mk hd (Go.le ⟨f, K⟩) ⟨f, rfl, Or.inr ⟨q, k, r, hX, h1, rfl, hc, h2.1, h2.2.1, by omega, K⟩⟩
theorem go_aretA {v : PV} (hd : decode (mB M) pc = .ok (.areturn, 1)) (h2 : 2 ≤ v.1) (h3 : v.1 ≠ 3) (h : mR M = some (.array .int)) (ho : out = (0, some v, w)) : Go X E M pc L [v] w out :=
  Go.mk hd (by rw [ho]; exact le.refl _) ⟨0, v, "", rfl, rfl, h2, h3, Or.inr h, ho⟩
theorem go_new {idx k : Nat} (hd : decode (mB M) pc = .ok (.new idx, 3)) (hp : pc + 3 = pc') (hn : n < 130) (hi : rNew (mC M) idx = some k) (h1 : sh n = k) (h2 : ln n = 0) (h3 : k < 12) (K : Go X E M pc' L (pvR k 0 n :: st) (false, n + 1, e, zNew σ n) out) : Go X E M pc L st (false, n, e, σ) out := by
  subst hp
  have hl := K.le
  obtain ⟨f, K⟩ := id K
  exact Go.mk hd ⟨(nle_1 (n := n) (k := 1) (by omega)).trans hl.1, hl.2⟩ ⟨f, rfl, Or.inr (Or.inr ⟨k, rfl, hn, hi, h1, h2, h3, K⟩)⟩
theorem go_newarr {a : ArrayType} {k L0 : Nat} {z : Int} (hd : decode (mB M) pc = .ok (.newarray a, 2)) (hp : pc + 2 = pc') (hn : n < 130) (ha : arrK a = some k) (h1 : sh n = k) (h2 : ln n = L0) (h3 : L0 ≤ 20000) (hz : z = (L0 : Int)) (K : Go X E M pc' L (pvR k L0 n :: st) (false, n + 1, e, zNew σ n) out) : Go X E M pc L (pvI z :: st) (false, n, e, σ) out := by
  subst hp
  subst h2
  subst hz
  have hl := K.le
  obtain ⟨f, K⟩ := id K
  exact Go.mk hd ⟨(nle_1 (n := n) (k := 1) (by omega)).trans hl.1, hl.2⟩ ⟨f, Or.inl ⟨st, k, rfl, rfl, hn, ha, h1, rfl, h3, K⟩⟩
theorem go_anew {idx : Nat} (hd : decode (mB M) pc = .ok (.anewarray idx, 3)) (hp : pc + 3 = pc') (hn : n < 130) (h0 : mC M = 0) (hi : rNew (mC M) idx = some 2) (h1 : sh n = 15) (h2 : ln n = 12) (K : Go X E M pc' L (pvR 15 12 n :: st) (false, n + 1, e, zNew σ n) out) : Go X E M pc L (pvI 12 :: st) (false, n, e, σ) out := by
  subst hp
  have hl := K.le
  obtain ⟨f, K⟩ := id K
  exact Go.mk hd ⟨(nle_1 (n := n) (k := 1) (by omega)).trans hl.1, hl.2⟩ ⟨f, st, rfl, rfl, hn, h0, hi, h1, h2, rfl, K⟩
theorem go_multi (hd : decode (mB M) pc = .ok (.multianewarray 60 2, 4)) (hp : pc + 4 = pc') (h0 : mC M = 0) (hn : n + 14 ≤ 130) (h1 : sh n = 16) (h2 : ln n = 13) (h3 : ∀ i, i < 13 → sh (n + 1 + i) = 12 ∧ ln (n + 1 + i) = 144) (K : Go X E M pc' L (pvR 16 13 n :: st) (false, n + 14, e, zRows σ n) out) : Go X E M pc L (pvI 144 :: pvI 13 :: st) (false, n, e, σ) out := by
  subst hp
  have hl := K.le
  obtain ⟨f, K⟩ := id K
  exact Go.mk hd ⟨(nle_1 (n := n) (k := 14) hn).trans hl.1, hl.2⟩ ⟨f, st, rfl, rfl, rfl, h0, rfl, hn, h1, h2, rfl, h3, K⟩
theorem go_made (hf : full (false, n, e, σ)) (K : Go X E M pc L st (true, 171, e, σ) out) : Go X E M pc L st (false, n, e, σ) out := by
  have hl := K.le
  obtain ⟨f, K⟩ := id K
  have h0 : n = 130 := hf.1
  have h9 : nle n 171 := by rw [h0]; unfold nle; omega
  exact ⟨f + 1, ⟨h9.trans hl.1, hl.2⟩, Or.inr (Or.inl ⟨rfl, hf, K⟩)⟩
/-! calls; kd: 0 virtual, 1 static, 2 init, 4 static (nest), 5 init (nest) -/
def ckI (kd idx : Nat) : Instr := match kd with
  | 0 => .invokevirtual idx
  | 1 => .invokestatic idx
  | 4 => .invokestatic idx
  | _ => .invokespecial idx
theorem ck_step {K : Kr} {fin : Out → Prop} {kd idx : Nat} (hk : kd = 0 ∨ kd = 1 ∨ kd = 2 ∨ kd = 4 ∨ kd = 5) (h : ∃ kc, rMth (mC M) idx = some (kd, kc) ∧ (kd < 6 ∧ ∃ (Mc : Mt) (as r : List PV) (o : Out), mtab[kc]? = some Mc ∧ st = as.reverse ++ r ∧ as.length = mA Mc ∧ nos as = true ∧ catS r ≤ 8 ∧ (kd ∈ [1, 4] ∨ ∃ (a : PV) (as' : List PV) (P : Nat), as = a :: as' ∧ rcv a (mC Mc) P) ∧ E kc as w o ∧ wle w o.2.2 ∧
      ((o.1 = 0 ∧ K (pc + 3) L (o.2.1.toList ++ r) o.2.2) ∨ (o.1 ≠ 0 ∧ o.1 ≤ 3 ∧ kd < 2 ∧ ((hdl (mC M) pc o.1 (mH M) = none ∧ mH M = [] ∧ fin (o.1, none, o.2.2)) ∨ ∃ h i ln, hdl (mC M) pc o.1 (mH M) = some h ∧ (decode (mB M) h = .ok (.astore i, ln) ∧ ln = 2 ∨ ∃ q : Fin 4, decode (mB M) h = .ok (.astore_n q, ln) ∧ ln = 1 ∧ (q : Nat) = i) ∧ i < L.length ∧ K (h + ln) ((clr L i).set i none) [] o.2.2))))) : stepP X E M (ckI kd idx) 3 K fin pc L st w := by
  obtain ⟨kc, h1, h2⟩ := h
  rcases hk with rfl | rfl | rfl | rfl | rfl <;> first | exact ⟨rfl, _, kc, h1, by simp, Or.inr h2⟩ | exact ⟨rfl, Or.inl ⟨_, kc, h1, by simp, Or.inr h2⟩⟩
theorem Ev.le {d k : Nat} {as : List PV} {w : Wd} {o : Out} (h : Ev d k as w o) : wle w o.2.2 := by
  match d, h with
  | d + 1, h =>
    obtain ⟨M, -, -, -, -, f, h⟩ := h
    exact Go.le ⟨f, h⟩
theorem go_call {d kd idx kc : Nat} {Mc : Mt} (as r : List PV) {v : Option PV} {w' : Wd} {st' : List PV} (hk : kd = 0 ∨ kd = 1 ∨ kd = 2 ∨ kd = 4 ∨ kd = 5) (hd : decode (mB M) pc = .ok (ckI kd idx, 3)) (hp : pc + 3 = pc') (h1 : rMth (mC M) idx = some (kd, kc)) (hM : mtab[kc]? = some Mc) (hst : st = as.reverse ++ r) (hl : as.length = mA Mc) (hn : nos as = true) (hc : catS r ≤ 8) (hr : kd ∈ [1, 4] ∨ ∃ (a : PV) (as' : List PV) (P : Nat), as = a :: as' ∧ rcv a (mC Mc) P) (hE : Ev d kc as w (0, v, w')) (hs : v.toList ++ r = st') (K : Go X (Ev d) M pc' L st' w' out) : Go X (Ev d) M pc L st w out := by
  subst hp
  subst hs
  have hle := hE.le
  have hle2 := K.le
  obtain ⟨f, K⟩ := id K
  exact Go.mk hd (hle.trans hle2) ⟨f, ck_step hk ⟨kc, h1, by omega, Mc, as, r, _, hM, hst, hl, hn, hc, hr, hE, hle, Or.inl ⟨rfl, K⟩⟩⟩
/-- the callee throws, and it goes on to the caller -/
theorem go_callX {d kd idx kc x : Nat} {Mc : Mt} (as r : List PV) {w' : Wd} (hk : kd = 0 ∨ kd = 1) (hd : decode (mB M) pc = .ok (ckI kd idx, 3)) (h1 : rMth (mC M) idx = some (kd, kc)) (hM : mtab[kc]? = some Mc) (hst : st = as.reverse ++ r) (hl : as.length = mA Mc) (hn : nos as = true) (hc : catS r ≤ 8) (hr : kd ∈ [1, 4] ∨ ∃ (a : PV) (as' : List PV) (P : Nat), as = a :: as' ∧ rcv a (mC Mc) P) (hH : mH M = []) (hx : x ≠ 0) (hx3 : x ≤ 3) (hE : Ev d kc as w (x, none, w')) (ho : out = (x, none, w')) : Go X (Ev d) M pc L st w out := by
  have hle := hE.le
  exact Go.mk hd (by rw [ho]; exact hle) ⟨0, ck_step (by rcases hk with h | h <;> simp [h]) ⟨kc, h1, by rcases hk with h | h <;> simp [h], Mc, as, r, _, hM, hst, hl, hn, hc, hr, hE, hle, Or.inr ⟨hx, hx3, by rcases hk with h | h <;> simp [h], Or.inl ⟨by rw [hH]; rfl, hH, ho⟩⟩⟩⟩
/-- the callee throws, and it is caught here -/
theorem go_callH {d kd idx kc x h i ln : Nat} {Mc : Mt} (as r : List PV) {w' : Wd} (hk : kd = 0 ∨ kd = 1) (hd : decode (mB M) pc = .ok (ckI kd idx, 3)) (h1 : rMth (mC M) idx = some (kd, kc)) (hM : mtab[kc]? = some Mc) (hst : st = as.reverse ++ r) (hl : as.length = mA Mc) (hn : nos as = true) (hc : catS r ≤ 8) (hr : kd ∈ [1, 4] ∨ ∃ (a : PV) (as' : List PV) (P : Nat), as = a :: as' ∧ rcv a (mC Mc) P) (hH : hdl (mC M) pc x (mH M) = some h) (hx : x ≠ 0) (hx3 : x ≤ 3) (hi : (decode (mB M) h = .ok (.astore i, ln) ∧ ln = 2) ∨ ∃ q : Fin 4, decode (mB M) h = .ok (.astore_n q, ln) ∧ ln = 1 ∧ (q : Nat) = i) (hil : i < L.length) (hL : (clr L i).set i none = L') (hp : h + ln = pc') (hE : Ev d kc as w (x, none, w')) (K : Go X (Ev d) M pc' L' [] w' out) : Go X (Ev d) M pc L st w out := by
  subst hp
  subst hL
  have hle := hE.le
  have hle2 := K.le
  obtain ⟨f, K⟩ := id K
  exact Go.mk hd (hle.trans hle2) ⟨f, ck_step (by rcases hk with h | h <;> simp [h]) ⟨kc, h1, by rcases hk with h | h <;> simp [h], Mc, as, r, _, hM, hst, hl, hn, hc, hr, hE, hle, Or.inr ⟨hx, hx3, by rcases hk with h | h <;> simp [h], Or.inr ⟨h, i, ln, hH, hi, hil, K⟩⟩⟩⟩
theorem Ev.of {d k : Nat} {as : List PV} {w : Wd} {o : Out} {M : Mt} {L0 : Lc} (hM : mtab[k]? = some M) (hl : as.length = mA M) (hn : nos as = true) (he : ent (mL M) as = L0) (hL : L0.length = mL M) (h : Go none (Ev d) M 0 L0 [] w o) : Ev (d + 1) k as w o := by
  subst he
  exact ⟨M, hM, hl, hn, hL, h⟩
theorem go_imax {x y : Int} {idx : Nat} (hd : decode (mB M) pc = .ok (.invokestatic idx, 3)) (hp : pc + 3 = pc') (h1 : rMth (mC M) idx = some (10, 0)) (hc : catS st ≤ 20) (K : Go X E M pc' L (pvI (max x y) :: st) w out) : Go X E M pc L (pvI y :: pvI x :: st) w out := by
  subst hp
  obtain ⟨f, K⟩ := id K
  exact Go.mk hd (Go.le ⟨f, K⟩) ⟨f, rfl, Or.inl ⟨10, 0, h1, by simp, Or.inl ⟨by omega, x, y, st, rfl, hc, K⟩⟩⟩
theorem go_imin {x y : Int} {idx : Nat} (hd : decode (mB M) pc = .ok (.invokestatic idx, 3)) (hp : pc + 3 = pc') (h1 : rMth (mC M) idx = some (11, 0)) (hc : catS st ≤ 20) (K : Go X E M pc' L (pvI (min x y) :: st) w out) : Go X E M pc L (pvI y :: pvI x :: st) w out := by
  subst hp
  obtain ⟨f, K⟩ := id K
  exact Go.mk hd (Go.le ⟨f, K⟩) ⟨f, rfl, Or.inl ⟨11, 0, h1, by simp, Or.inl ⟨by omega, x, y, st, rfl, hc, K⟩⟩⟩
theorem go_lmax {x y : Int} {idx : Nat} (hd : decode (mB M) pc = .ok (.invokestatic idx, 3)) (hp : pc + 3 = pc') (h1 : rMth (mC M) idx = some (12, 0)) (hc : catS st ≤ 20) (K : Go X E M pc' L (pvL (max x y) :: st) w out) : Go X E M pc L (pvL y :: pvL x :: st) w out := by
  subst hp
  obtain ⟨f, K⟩ := id K
  exact Go.mk hd (Go.le ⟨f, K⟩) ⟨f, rfl, Or.inl ⟨12, 0, h1, by simp, Or.inl ⟨by omega, x, y, st, rfl, hc, K⟩⟩⟩
theorem go_lmin {x y : Int} {idx : Nat} (hd : decode (mB M) pc = .ok (.invokestatic idx, 3)) (hp : pc + 3 = pc') (h1 : rMth (mC M) idx = some (13, 0)) (hc : catS st ≤ 20) (K : Go X E M pc' L (pvL (min x y) :: st) w out) : Go X E M pc L (pvL y :: pvL x :: st) w out := by
  subst hp
  obtain ⟨f, K⟩ := id K
  exact Go.mk hd (Go.le ⟨f, K⟩) ⟨f, rfl, Or.inl ⟨13, 0, h1, by simp, Or.inl ⟨by omega, x, y, st, rfl, hc, K⟩⟩⟩
theorem go_labs {x : Int} {idx : Nat} (hd : decode (mB M) pc = .ok (.invokestatic idx, 3)) (hp : pc + 3 = pc') (h1 : rMth (mC M) idx = some (14, 0)) (hc : catS st ≤ 20) (hr : r64 (-x)) (K : Go X E M pc' L (pvL (max x (-x)) :: st) w out) : Go X E M pc L (pvL x :: st) w out := by
  subst hp
  obtain ⟨f, K⟩ := id K
  exact Go.mk hd (Go.le ⟨f, K⟩) ⟨f, rfl, Or.inl ⟨14, 0, h1, by simp, Or.inl ⟨by omega, x, st, rfl, hc, hr, K⟩⟩⟩
theorem go_copy {nn dp sp : Int} {L1 P1 L0 P0 idx : Nat} (hd : decode (mB M) pc = .ok (.invokestatic idx, 3)) (hp : pc + 3 = pc') (h1 : rMth (mC M) idx = some (15, 0)) (hc : catS st ≤ 20) (hr : 0 ≤ sp ∧ 0 ≤ dp ∧ 0 ≤ nn ∧ sp + nn ≤ L0 ∧ dp + nn ≤ L1) (K : Go X E M pc' L st (md, n, e, zCpy σ P0 P1 sp dp nn) out) : Go X E M pc L (pvI nn :: pvI dp :: pvR 12 L1 P1 :: pvI sp :: pvR 12 L0 P0 :: st) (md, n, e, σ) out := by
  subst hp
  obtain ⟨f, K⟩ := id K
  exact Go.mk hd (Go.le (w := (md, n, e, zCpy σ P0 P1 sp dp nn)) ⟨f, K⟩) ⟨f, rfl, Or.inl ⟨15, 0, h1, by simp, Or.inl ⟨by omega, nn, dp, sp, L1, P1, L0, P0, st, rfl, hc, hr.1, hr.2.1, hr.2.2.1, hr.2.2.2.1, hr.2.2.2.2, K⟩⟩⟩
theorem go_obj {k L0 P idx : Nat} (hd : decode (mB M) pc = .ok (.invokespecial idx, 3)) (hp : pc + 3 = pc') (h1 : rMth (mC M) idx = some (16, 0)) (hc : catS st ≤ 20) (K : Go X E M pc' L st w out) : Go X E M pc L (pvR k L0 P :: st) w out := by
  subst hp
  obtain ⟨f, K⟩ := id K
  exact Go.mk hd (Go.le ⟨f, K⟩) ⟨f, rfl, 16, 0, h1, by simp, Or.inl ⟨by omega, k, L0, P, st, rfl, hc, K⟩⟩
end GO
/-! the pure side -/
noncomputable def grd {α : Type} (c : Prop) (k : Option α) : Option α := @ite _ c (Classical.propDecidable c) k none
theorem grd_t {α : Type} {c : Prop} {k : Option α} (h : c) : grd c k = k := if_pos h
theorem gd {α : Type} {c : Prop} {k : Option α} {r : α} (h : grd c k = some r) : c ∧ k = some r := by
  unfold grd at h
  by_cases hc : c
  · rw [if_pos hc] at h; exact ⟨hc, h⟩
  · rw [if_neg hc] at h; cases h
theorem bd {α β : Type} {x : Option α} {K : α → Option β} {r : β} (h : x.bind K = some r) : ∃ a, x = some a ∧ K a = some r := Option.bind_eq_some_iff.mp h
def zFuel : Nat := 1000000
