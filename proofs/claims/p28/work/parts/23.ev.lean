/-! ===== every method that the numbers' machine runs keeps its contract ===== -/
def entL (as : List PV) : Lc := as.flatMap fun v => if v.1 = 1 then [some v, none] else [some v]
theorem lv_args_entL (al : Nat → Nat) (b : Nat) : ∀ (as : List PV) (k i : Nat) (v : PV), (entL as)[i]? = some (some v) → (k + i, vl al b v) ∈ lv_args k (as.map (vl al b))
  | [], k, i, v, h => by simp [entL] at h
  | u :: as, k, i, v, h => by
    have e : entL (u :: as) = (if u.1 = 1 then [some u, none] else [some u]) ++ entL as := rfl
    rw [e] at h
    show (k + i, vl al b v) ∈ (k, vl al b u) :: lv_args (if (vl al b u).category = 2 then k + 2 else k + 1) (as.map (vl al b))
    by_cases hu : u.1 = 1
    · rw [if_pos hu] at h
      have hc : (vl al b u).category = 2 := by rw [vl_cat, catV, if_pos hu]
      rw [if_pos hc]
      match i, h with
      | 0, h => cases h; exact List.mem_cons_self
      | 1, h => cases h
      | i + 2, h =>
        have h : (entL as)[i]? = some (some v) := h
        have := lv_args_entL al b as (k + 2) i v h
        rw [show k + (i + 2) = k + 2 + i by omega]
        exact List.mem_cons_of_mem _ this
    · rw [if_neg hu] at h
      have hc : ¬ (vl al b u).category = 2 := by rw [vl_cat, catV, if_neg hu]; omega
      rw [if_neg hc]
      match i, h with
      | 0, h => cases h; exact List.mem_cons_self
      | i + 1, h =>
        have h : (entL as)[i]? = some (some v) := h
        have := lv_args_entL al b as (k + 1) i v h
        rw [show k + (i + 1) = k + 1 + i by omega]
        exact List.mem_cons_of_mem _ this
theorem entL_len (al : Nat → Nat) (b : Nat) : ∀ (as : List PV), (lg_sl (as.map (vl al b))).length = (entL as).length
  | [] => rfl
  | u :: as => by
    have e : entL (u :: as) = (if u.1 = 1 then [some u, none] else [some u]) ++ entL as := rfl
    have e2 : lg_sl ((u :: as).map (vl al b)) = (if (vl al b u).category = 2 then [.val (vl al b u), .second] else [.val (vl al b u)]) ++ lg_sl (as.map (vl al b)) := rfl
    rw [e, e2, List.length_append, List.length_append, entL_len al b as]
    congr 1
    rw [vl_cat, catV]
    by_cases hu : u.1 = 1
    · rw [if_pos hu, if_pos rfl, if_pos hu]; rfl
    · rw [if_neg hu, if_neg (by omega), if_neg hu]; rfl
theorem entL_mem : ∀ {as : List PV} {i : Nat} {v : PV}, (entL as)[i]? = some (some v) → v ∈ as
  | [], i, v, h => by simp [entL] at h
  | u :: as, i, v, h => by
    have e : entL (u :: as) = (if u.1 = 1 then [some u, none] else [some u]) ++ entL as := rfl
    rw [e] at h
    by_cases hu : u.1 = 1
    · rw [if_pos hu] at h
      match i, h with
      | 0, h => cases h; exact List.mem_cons_self
      | 1, h => cases h
      | i + 2, h => exact List.mem_cons_of_mem _ (entL_mem (show (entL as)[i]? = some (some v) from h))
    · rw [if_neg hu] at h
      match i, h with
      | 0, h => cases h; exact List.mem_cons_self
      | i + 1, h => exact List.mem_cons_of_mem _ (entL_mem (show (entL as)[i]? = some (some v) from h))
theorem ent_get {n i : Nat} {as : List PV} {v : PV} (h : (ent n as)[i]? = some (some v)) : (entL as)[i]? = some (some v) := by
  have h : (entL as ++ List.replicate (n - (entL as).length) none)[i]? = some (some v) := h
  by_cases hl : i < (entL as).length
  · rw [List.getElem?_append_left hl] at h
    exact h
  · rw [List.getElem?_append_right (by omega)] at h
    have := List.mem_of_getElem? h
    have := List.eq_of_mem_replicate this
    cases this
theorem LH_ent {al : Nat → Nat} {b n : Nat} {as : List PV} (h : (ent n as).length = n) : LH al b ((lg_sl (as.map (vl al b)) ++ List.replicate (n - (lg_sl (as.map (vl al b))).length) Slot.unset).toArray) n (ent n as) := by
  have hle : (lg_sl (as.map (vl al b))).length ≤ n := by
    rw [entL_len]
    have : (ent n as).length = (entL as).length + (n - (entL as).length) := by
      unfold ent
      rw [List.length_append, List.length_replicate]
      rfl
    omega
  have hv := lv_entry (as.map (vl al b)) hle
  refine ⟨h, hv.1, hv.2.1, fun i v hi => ?_⟩
  have := lv_args_entL al b as 0 i v (ent_get hi)
  rw [Nat.zero_add] at this
  exact hv.2.2 _ this
theorem cn_self (w : Wd) : cn w w = 0 := by unfold cn; omega
theorem sn_self (w : Wd) : sn w w = 0 := by unfold sn; omega
theorem snd_Ev {l : Launch} (hl : l.stackTraces = false) : ∀ (d k : Nat) (as : List PV) (w : Wd) (o : Out), Ev d k as w o → Ctr l d k as w o
  | 0, _, _, _, _, h => h.elim
  | d + 1, k, as, w, o, h => by
    obtain ⟨M, hM, hlen, hns, hent, f, hrun⟩ := h
    intro M' hM' hT hv D cs al sz
    cases hM.symm.trans hM'
    have h1 := List.all_eq_true.mp mt_ok M (List.mem_of_getElem? hM)
    unfold mtOk at h1
    simp only [Bool.and_eq_true, decide_eq_true_eq] at h1
    obtain ⟨c1, c2, c3, c4, c5, c6⟩ := h1
    have hle : le w o.2.2 := by
      match f, hrun with
      | f + 1, hrun => exact hrun.1
    have body : ∀ (p : Program) (e : Env) (s : State) (m : MethodId) (args : Array Value) (below : List Frame) (meth : Method) (c : Code) (s₁ : State), BodyLoose p l (mY M) (headSpec (wsG (mw M)) (rmD (d + 1) w o.2.2)) (mB M) (mL M) (mR M) e s m args below meth c s₁ → c.maxLocals = mL M → c.exceptionTable.toList = tableOf (mH M) → va_Pc (as.map (vl al 0)) (PreC D cs al w.2.1 w.2.2.2 sz) args s →
        W p l e (headSpec (wsG (mw M)) (rmD (d + 1) w o.2.2)).room s m args below meth c s.heap [] 0 0 (vx_MQ below (CQ D cs al (zA al w.2.1 sz) w o) (CX D cs al (zA al w.2.1 sz) w o) args s (cn o.2.2 w) (sn o.2.2 w) (zA al w.2.1 sz)) (entryFrame m args (mL M)) := by
      intro p e s m args below meth c s₁ B hml htab hPc
      obtain ⟨rfl, hsz, hP, hD, hMF⟩ := hPc
      have hts0 := atoms_spec (ws := wsG (mw M)) B.pre
      have hown : s.vm.findClass (zOwn (mC M)) = some m.cls := by rw [← c1]; exact findClass_of_methodNamed B.named
      have hname : meth.name = (mY M).name := (name_of_methodNamed B.named B.method).1
      have hC : Cx (p, l, e, (headSpec (wsG (mw M)) (rmD (d + 1) w o.2.2)).room, s, m, (as.map (vl al 0)).toArray, below, meth, c, D, cs, zA al w.2.1 sz, vx_MQ below (CQ D cs al (zA al w.2.1 sz) w o) (CX D cs al (zA al w.2.1 sz) w o) (as.map (vl al 0)).toArray s (cn o.2.2 w) (sn o.2.2 w) (zA al w.2.1 sz)) (M, d, w, al, o.2.2, none, 0) := by
        refine ⟨⟨B.exec, B.bytes, hml, hown⟩, fun x hx => hts0 x (List.mem_cons_of_mem _ hx), fun q hq => Or.inr (by rw [← hsz]; exact hq), ⟨B.notSynchronized, hl, B.returns, fun hi => hname.trans hi, htab⟩, hMF, ⟨?_, ?_, ?_, ?_⟩, fun q hq => by cases hq⟩
        · show d + 8 ≤ d + 1 + 7; omega
        · show 60 * d + 150 ≤ 60 * (d + 1) + 90; omega
        · exact Nat.le_refl _
        · exact Nat.le_refl _
      have hg := (snd_run (out := o) hC ⟨rfl, rfl⟩ (fun k as w o h => snd_Ev hl d k as w o h) f 0 (ent (mL M) as) [] w hrun).2
      have hW := hg al s.heap [] ((lg_sl (as.map (vl al 0)) ++ List.replicate (mL M - (lg_sl (as.map (vl al 0))).length) Slot.unset).toArray) ⟨⟨le.refl _, hle⟩, hT, (fun v hv => by cases hv), fun i v hi => hv v (entL_mem (ent_get hi)), fun _ _ => rfl, LH_ent hent, hP, hD, va_S.rf⟩
      rw [cn_self, sn_self] at hW
      rw [lg_entry_eq]
      exact hW
    cases hH : mH M with
    | nil =>
      have hw9 : wsG (mw M) = Cond.code (mY M) (mB M) (mL M) (mR M) :: lw_good := by unfold wsG mw; rw [hH]
      refine vx_ofW c6 hw9 (fun p e s m args below meth c s₁ B hml ht hPc => body p e s m args below meth c s₁ B hml ?_ hPc)
      rw [hH]
      exact List.eq_nil_iff_forall_not_mem.mpr ht
    | cons h9 r9 =>
      have hw9 : wsG (mw M) = Cond.codeWith (mY M) (mB M) (mL M) (mR M) (h9 :: r9) :: lw_good := by unfold wsG mw; rw [hH]
      refine vx_ofWH c6 hw9 (fun p e s m args below meth c s₁ B hml hPc => body p e s m args below meth c s₁ B hml ?_ hPc)
      rw [hH]
      exact vx_table (x := mY M) B (atoms_spec (ws := wsG (mw M)) B.pre _ (by rw [hw9]; exact List.mem_cons_self))
