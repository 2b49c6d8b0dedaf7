/-! ===== what the tables say beyond the words that travel: in every state ===== -/
def zX (k : Nat) : String := match k with
  | 1 => "java/lang/IndexOutOfBoundsException"
  | 2 => "java/lang/IllegalArgumentException"
  | _ => "java/lang/IllegalStateException"
def zNest : List (String × Nat × MethodName × String) := [("Cubecaller", 11, yX7_init, "Cubecaller"), ("Cubecaller$Dimension", 17, yX5_init, "Cubecaller"), ("Cubecaller", 20, yX4_init, "Cubecaller"), ("Cubecaller", 27, yX1_init, "Cubecaller"), ("Cubecaller", 34, yX3_init, "Cubecaller"), ("Cubecaller", 41, yX8_init, "Cubecaller"), ("Cubecaller", 57, yX2_init, "Cubecaller"), ("Cubecaller$Space", 45, yX10_memberOf, "Cubecaller"), ("Cubecaller$Reckoner", 84, yX10_memberOf, "Cubecaller"), ("Cubecaller$Reckoner", 153, yX10_bounded, "Cubecaller"), ("Cubecaller$Reckoner", 105, yX10_withMember, "Cubecaller")]
def zStr : List (String × Nat × String) := [("Cubecaller", 322, "no such dimension"), ("Cubecaller", 110, "no such member"), ("Cubecaller", 333, "out of range"), ("Cubecaller", 337, "not as things stand"), ("Cubecaller", 131, "it cannot be moved"), ("Cubecaller", 184, "the member 0 cannot be hidden"), ("Cubecaller", 331, "no such measure"), ("Cubecaller", 265, "no such place"), ("Cubecaller", 272, "both dimensions are the same")]
def zNc : List (String × String) := [(zX 2, zX 1), (zX 3, zX 1), (zX 3, zX 2)]
def zSup : List String := ["java/lang/RuntimeException", "java/lang/Exception"]
def zBad : List Cond := (vx_atS RX10 339 (zX 1) zSup ++ (vx_atS RX10 339 (zX 2) zSup ++ vx_atS RX10 339 (zX 3) zSup)).filter (fun w => !goodWord w) ++ [.castable (zX 1) (zX 1), .castable (zX 2) (zX 2), .castable (zX 3) (zX 3)]
def isCPD (w : Cond) : Bool := match w with
  | .castable .. => true
  | .privateMethod _ => true
  | .declares _ => true
  | _ => false
theorem zBad_ok : zBad.all isCPD = true := by decide +kernel
theorem zBad_warm {s U : State} {w : Cond} (hw : isCPD w = true) (hW : s.WarmedH U.vm) (hZ : va_Nw w s) : va_Nw w U := by
  cases w with
  | castable a b => exact va_Nw.warmC hW hZ
  | privateMethod x => exact va_tabs rfl (rfl : (s.setVm U.vm).vm = U.vm) (by rw [Cond.privateMethod_setVm hW.alike]; exact hZ)
  | declares x => exact va_tabs rfl (rfl : (s.setVm U.vm).vm = U.vm) (by rw [Cond.declares_setVm hW.alike]; exact hZ)
  | _ => cases hw
theorem zBad_same {s U : State} {w : Cond} (hw : isCPD w = true) (hv : s.vm = U.vm) (hZ : va_Nw w s) : va_Nw w U := by
  cases w with
  | castable a b => exact va_Nw.same rfl hv hZ
  | privateMethod x => exact va_Nw.same rfl hv hZ
  | declares x => exact va_Nw.same rfl hv hZ
  | _ => cases hw
def ztys (cs : Cids) : List (ClassId × FieldType) := [(cs.1, .int), (cs.2.1, .long), (cs.2.2.1, .boolean), (cs.2.2.2.1, .object RX2), (cs.2.2.2.2, .array .int)]
/-- there are arrays of int[] -/
def zAO (U : State) : Prop := (Cond.arrayOver (.array .int)).before #[] U = true
theorem zAO.moved {u U : State} (hvm : u.vm.Alike U.vm) (h : zAO u) : zAO U := Jvm.Stand.arrayOver_alikeB hvm h
def MF (D : va_G) (cs : Cids) (A : Nat → Prop) (U : State) (H : Heap) : Prop :=
  va_K D vwCl (ztys cs) U ∧ (∀ q ∈ zNest, va_Nw (.methodLinkNest q.1 q.2.1 q.2.2.1 q.2.2.2) U) ∧ (∀ q ∈ zStr, ∃ sa, vk_R q.1 q.2.1 q.2.2 sa U) ∧ (∀ q ∈ zNc, va_Nc q.1 q.2 U) ∧ (∀ w ∈ zBad, va_Nw w U) ∧
  vx_Zq Bundle.tN "UNASSIGNED_STACK" Bundle.steD A U H ∧ vx_Zq Bundle.tN "SUPPRESSED_SENTINEL" Bundle.listD A U H ∧ va_AO RX2 U ∧ zAO U
theorem MF.warm {D : va_G} {cs : Cids} {A : Nat → Prop} {s U : State} {H : Heap} (hW : s.WarmedH U.vm) (h : MF D cs A s H) : MF D cs A U H :=
  ⟨va_K.moved hW.alike h.1, fun q hq => va_Nw.warmM hW (h.2.1 q hq), fun q hq => by obtain ⟨sa, h1⟩ := h.2.2.1 q hq; exact ⟨sa, vk_R.warm hW h1⟩, fun q hq => va_Nc.moved hW.alike (h.2.2.2.1 q hq), fun w hw => zBad_warm (List.all_eq_true.mp zBad_ok w hw) hW (h.2.2.2.2.1 w hw), h.2.2.2.2.2.1.moved hW.alike, h.2.2.2.2.2.2.1.moved hW.alike, va_AO.moved hW.alike h.2.2.2.2.2.2.2.1, zAO.moved hW.alike h.2.2.2.2.2.2.2.2⟩
theorem MF.same {D : va_G} {cs : Cids} {A : Nat → Prop} {s U : State} {H : Heap} (hv : U.vm = s.vm) (h : MF D cs A s H) : MF D cs A U H := by
  have ha : s.vm.Alike U.vm := by rw [hv]; exact Vm.Alike.refl _
  exact ⟨va_K.moved ha h.1, fun q hq => va_Nw.same rfl hv.symm (h.2.1 q hq), fun q hq => by obtain ⟨sa, h1⟩ := h.2.2.1 q hq; exact ⟨sa, vk_R.same hv h1⟩, fun q hq => va_Nc.moved ha (h.2.2.2.1 q hq), fun w hw => zBad_same (List.all_eq_true.mp zBad_ok w hw) hv.symm (h.2.2.2.2.1 w hw), h.2.2.2.2.2.1.moved ha, h.2.2.2.2.2.2.1.moved ha, va_AO.moved ha h.2.2.2.2.2.2.2.1, zAO.moved ha h.2.2.2.2.2.2.2.2⟩
theorem MF.kept {D : va_G} {cs : Cids} {A : Nat → Prop} {s : State} {H H1 : Heap} (hq : ∀ a : Nat, a < H.size → ¬ A a → H1[a]? = H[a]?) (h : MF D cs A s H) : MF D cs A s H1 :=
  ⟨h.1, h.2.1, h.2.2.1, h.2.2.2.1, h.2.2.2.2.1, h.2.2.2.2.2.1.kept hq, h.2.2.2.2.2.2.1.kept hq, h.2.2.2.2.2.2.2⟩
theorem MF.narrow {D : va_G} {cs : Cids} {A B : Nat → Prop} {s : State} {H : Heap} (hq : ∀ q, B q → A q) (h : MF D cs A s H) : MF D cs B s H :=
  ⟨h.1, h.2.1, h.2.2.1, h.2.2.2.1, h.2.2.2.2.1, h.2.2.2.2.2.1.narrow hq, h.2.2.2.2.2.2.1.narrow hq, h.2.2.2.2.2.2.2⟩
def zA (al : Nat → Nat) (n sz : Nat) : Nat → Prop := fun q => (∃ p, inn n p ∧ q = al p) ∨ sz ≤ q
theorem va_D_zA {al : Nat → Nat} {cs : Cids} {σ : Hp} {n sz : Nat} {A : Nat → Prop} (h : va_D A (wsv al cs σ n)) : va_D (zA al n sz) (wsv al cs σ n) := wsv_D.mpr ⟨(wsv_D.mp h).1, fun p hp => Or.inl ⟨p, hp, rfl⟩⟩
theorem va_D_al {al : Nat → Nat} {cs : Cids} {σ : Hp} {n : Nat} {A : Nat → Prop} (h : va_D A (wsv al cs σ n)) : ∀ p, inn n p → A (al p) := (wsv_D.mp h).2
theorem va_D_to {al : Nat → Nat} {cs : Cids} {σ σ' : Hp} {n : Nat} {A : Nat → Prop} (h : va_D A (wsv al cs σ n)) : va_D A (wsv al cs σ' n) := wsv_D.mpr (wsv_D.mp h)
theorem zA_mono {al : Nat → Nat} {n sz : Nat} {A : Nat → Prop} (h : ∀ p, inn n p → A (al p)) (hs : ∀ q : Nat, sz ≤ q → A q) : ∀ q, zA al n sz q → A q := by
  rintro q (⟨p, hp, rfl⟩ | hq)
  · exact h p hp
  · exact hs q hq
