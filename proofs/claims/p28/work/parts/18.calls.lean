/-! ===== what the tables say of the methods and of the calls ===== -/
def mtM (k : Nat) : Mt := mtab.getD k (0, ⟨"", "", ""⟩, ⟨#[]⟩, 0, none, 0, [])
theorem mw_good (M : Mt) : goodWord (mw M) = true := by unfold mw; split <;> rfl
theorem mt_code {k : Nat} {M : Mt} (hk : k < 163) (h : mtab[k]? = some M) : mw M ∈ lw_good := by
  refine List.mem_filter.mpr ⟨List.mem_append_right _ ?_, mw_good M⟩
  have l0 : mtab0.length = 60 := by decide +kernel
  have l1 : mtab1.length = 60 := by decide +kernel
  unfold mtab at h
  by_cases h0 : k < 60
  · rw [List.getElem?_append_left (by omega)] at h
    exact mcs_0 _ (List.mem_map.mpr ⟨M, List.mem_of_getElem? h, rfl⟩)
  rw [List.getElem?_append_right (by omega)] at h
  by_cases h1 : k < 120
  · rw [List.getElem?_append_left (by omega)] at h
    exact mcs_1 _ (List.mem_map.mpr ⟨M, List.mem_of_getElem? h, rfl⟩)
  rw [List.getElem?_append_right (by omega)] at h
  refine mcs_2 _ (List.mem_map.mpr ⟨M, List.mem_of_getElem? (i := k - mtab0.length - mtab1.length) ?_, rfl⟩)
  rw [List.getElem?_take, if_pos (by omega)]
  exact h
theorem mt_ini : ((List.range 15).all fun c => decide (c = 11) || (decide (Cond.initialized (zOwn c) ∈ tables_1) && goodWord (Cond.initialized (zOwn c)))) = true := by decide +kernel
def mtOk (M : Mt) : Bool := decide ((mY M).cls = zOwn (mC M)) && (decide (mC M < 15 ∧ mC M ≠ 11) && (decide ((mY M).cls ≠ "java/lang/invoke/MethodHandle") && (decide ((mY M).cls ≠ "java/lang/invoke/VarHandle") && (decide (mL M ≤ 22) && plainName (mY M).cls))))
theorem mt_ok : mtab.all mtOk = true := by decide +kernel
theorem mt_word {k : Nat} {M : Mt} (hk : k < 163) (h : mtab[k]? = some M) : mw M ∈ lw_good ∧ Cond.initialized (mY M).cls ∈ lw_good ∧ (mY M).cls = zOwn (mC M) ∧ ((mY M).cls ≠ "java/lang/invoke/MethodHandle" ∧ (mY M).cls ≠ "java/lang/invoke/VarHandle") ∧ mL M ≤ 22 ∧ plainName (mY M).cls = true := by
  have h1 := List.all_eq_true.mp mt_ok M (List.mem_of_getElem? h)
  unfold mtOk at h1
  simp only [Bool.and_eq_true, decide_eq_true_eq] at h1
  obtain ⟨c, c2, d, e, f, g⟩ := h1
  have h2 := List.all_eq_true.mp mt_ini (mC M) (List.mem_range.mpr c2.1)
  simp only [Bool.or_eq_true, Bool.and_eq_true, decide_eq_true_eq] at h2
  have h2 := h2.resolve_left c2.2
  refine ⟨mt_code hk h, ?_, c, ⟨d, e⟩, f, g⟩
  rw [c]
  exact List.mem_filter.mpr ⟨List.mem_append_right _ h2.1, h2.2⟩
def natN (k : Nat) : MethodName := match k with
  | 10 => Lib.Math.max.name
  | 11 => Lib.Math.min.name
  | 12 => Lib.MathLoose.max_long.x
  | 13 => Lib.MathLoose.min_long.x
  | 14 => Lib.MathLoose.abs_long.x
  | 15 => arraycopyName
  | _ => Lib.objectInit
def mcW (q : Nat × Nat × Nat × Nat) : Cond := .methodLink (zOwn q.1) q.2.1 (if 10 ≤ q.2.2.1 then natN q.2.2.1 else mY (mtM q.2.2.2))
def mcL : List (Nat × Nat × Nat × Nat) := rMthL.filter fun q => decide (10 ≤ q.2.2.1) || decide (q.2.2.1 < 3)
theorem mc_link : (subL tables_1 (mcL.map mcW) && (mcL.map mcW).all goodWord) = true := by decide +kernel
theorem mc_nest : (rMthL.all fun q => decide (10 ≤ q.2.2.1) || decide (q.2.2.1 < 3) || decide ((zOwn q.1, q.2.1, mY (mtM q.2.2.2), "Cubecaller") ∈ zNest)) = true := by decide +kernel
theorem mi_in : (subL tables_1 (mInst.map fun k => .instanceMethod (mY (mtM k))) && (mInst.map fun k => Cond.instanceMethod (mY (mtM k))).all goodWord) = true := by decide +kernel
theorem ms_in : (subL tables_1 (mStat.map fun k => .static (mY (mtM k))) && (mStat.map fun k => Cond.static (mY (mtM k))).all goodWord) = true := by decide +kernel
theorem me_in : (subL tables_1 (mSel.map fun k => .selects (mY (mtM k)).cls (mY (mtM k)) (mY (mtM k))) && (mSel.map fun k => Cond.selects (mY (mtM k)).cls (mY (mtM k)) (mY (mtM k))).all goodWord) = true := by decide +kernel
theorem mp_in : (subL (k2_sels lw_privs) (mPriv.map fun k => .selects (mY (mtM k)).cls (mY (mtM k)) (mY (mtM k))) && (mPriv.map fun k => Cond.selects (mY (mtM k)).cls (mY (mtM k)) (mY (mtM k))).all goodWord) = true := by decide +kernel
/-- what a call wants of its method -/
def mcOk (q : Nat × Nat × Nat × Nat) : Bool := decide (10 ≤ q.2.2.1) || (decide (q.2.2.2 < 163) && (match q.2.2.1 with
    | 0 => decide (q.2.2.2 ∈ mInst) && ((decide (q.2.2.2 ∈ mSel) || decide (q.2.2.2 ∈ mPriv)) && (decide (mH (mtM q.2.2.2) = []) && decide ((parseMethodDescriptor (mY (mtM q.2.2.2)).desc).map (fun d => d.parameters.length + 1) = some (mA (mtM q.2.2.2)))))
    | 1 => decide (q.2.2.2 ∈ mStat) && decide ((parseMethodDescriptor (mY (mtM q.2.2.2)).desc).map (fun d => d.parameters.length) = some (mA (mtM q.2.2.2)))
    | 2 => decide (q.2.2.2 ∈ mInst) && (decide ((mY (mtM q.2.2.2)).name = "<init>") && (decide (mR (mtM q.2.2.2) = none) && (decide (mH (mtM q.2.2.2) = []) && decide ((parseMethodDescriptor (mY (mtM q.2.2.2)).desc).map (fun d => d.parameters.length + 1) = some (mA (mtM q.2.2.2))))))
    | 4 => decide (q.2.2.2 ∈ mStat) && (decide (mH (mtM q.2.2.2) = []) && decide ((parseMethodDescriptor (mY (mtM q.2.2.2)).desc).map (fun d => d.parameters.length) = some (mA (mtM q.2.2.2))))
    | 5 => decide (q.2.2.2 ∈ mInst) && (decide ((mY (mtM q.2.2.2)).name = "<init>") && (decide (mR (mtM q.2.2.2) = none) && (decide (mH (mtM q.2.2.2) = []) && decide ((parseMethodDescriptor (mY (mtM q.2.2.2)).desc).map (fun d => d.parameters.length + 1) = some (mA (mtM q.2.2.2))))))
    | _ => false))
theorem mc_ok : rMthL.all mcOk = true := by decide +kernel
theorem mtM_of {k : Nat} {M : Mt} (h : mtab[k]? = some M) : mtM k = M := by unfold mtM; rw [List.getD_eq_getElem?_getD, h]; rfl
theorem mt_inst {k : Nat} (h : k ∈ mInst) : Cond.instanceMethod (mY (mtM k)) ∈ lw_good := sub_good mi_in _ (List.mem_map.mpr ⟨k, h, rfl⟩)
theorem mt_stat {k : Nat} (h : k ∈ mStat) : Cond.static (mY (mtM k)) ∈ lw_good := sub_good ms_in _ (List.mem_map.mpr ⟨k, h, rfl⟩)
theorem mt_sel {k : Nat} (h : k ∈ mSel ∨ k ∈ mPriv) : Cond.selects (mY (mtM k)).cls (mY (mtM k)) (mY (mtM k)) ∈ lw_good := by
  rcases h with h | h
  · exact sub_good me_in _ (List.mem_map.mpr ⟨k, h, rfl⟩)
  · have h9 := mp_in
    simp only [Bool.and_eq_true] at h9
    have hm : Cond.selects (mY (mtM k)).cls (mY (mtM k)) (mY (mtM k)) ∈ mPriv.map fun k => Cond.selects (mY (mtM k)).cls (mY (mtM k)) (mY (mtM k)) := List.mem_map.mpr ⟨k, h, rfl⟩
    exact List.mem_filter.mpr ⟨List.mem_append_left _ (subL_mem h9.1 _ hm), List.all_eq_true.mp h9.2 _ hm⟩
theorem mc_linkw {c i kd kc : Nat} (h : rMth c i = some (kd, kc)) (hk : 10 ≤ kd ∨ kd < 3) : Cond.methodLink (zOwn c) i (if 10 ≤ kd then natN kd else mY (mtM kc)) ∈ lw_good := by
  have hm := find_mem h
  refine sub_good mc_link _ (List.mem_map.mpr ⟨(c, i, kd, kc), List.mem_filter.mpr ⟨hm, ?_⟩, rfl⟩)
  simp only [Bool.or_eq_true, decide_eq_true_eq]
  exact hk
theorem mc_nestw {c i kd kc : Nat} (h : rMth c i = some (kd, kc)) (hk : ¬ (10 ≤ kd ∨ kd < 3)) : (zOwn c, i, mY (mtM kc), "Cubecaller") ∈ zNest := by
  have h1 := List.all_eq_true.mp mc_nest _ (find_mem h)
  simp only [Bool.or_eq_true, decide_eq_true_eq] at h1
  rcases h1 with h1 | h1
  · exact absurd h1 hk
  · exact h1
theorem goodIn_all {ws : List Cond} (h : ∀ w ∈ ws, w ∈ lw_good) : GoodIn lw_good ws := fun w hw => ⟨h w hw, good_of_word (List.mem_filter.mp (h w hw)).2⟩
theorem wsG_in {w : Cond} (h : w ∈ lw_good) : ∀ x ∈ wsG w, x ∈ lw_good := fun x hx => by
  rcases List.mem_cons.mp hx with rfl | hx
  · exact h
  · exact hx
theorem CX_no {D : va_G} {cs : Cids} {al0 : Nat → Nat} {A : Nat → Prop} {w0 : Wd} {out : Out} (h : out.1 = 0) : ∀ E st t, ¬ CX D cs al0 A w0 out E st t := fun _ _ _ h2 => h2.1.1 h
theorem preC_blind {D : va_G} {cs : Cids} {al : Nat → Nat} {n sz : Nat} {σ : Hp} {av : List Value} : FrameBlind (va_Pc av (PreC D cs al n σ sz)) := fun a U g mk q => by
  obtain ⟨q1, q2, q3, q4, q5⟩ := q
  exact ⟨q1, q2, q3, q4, MF.same (s := U) (U := U.calling g mk a) (H := U.heap) rfl q5⟩
