/-! ===== what does not change where the reference's cells stay ===== -/
theorem ifc {α : Type} {b c : Prop} [Decidable b] [Decidable c] {x y u v : α} (h : b ↔ c) (h1 : x = u) (h2 : y = v) : (if b then x else y) = (if c then u else v) := by
  by_cases g : b
  · rw [if_pos g, if_pos (h.mp g)]; exact h1
  · rw [if_neg g, if_neg (fun q => g (h.mpr q))]; exact h2
def sPr (a a' : Ab) : Prop := a' 132 = a 132 ∧ a' 141 = a 141 ∧ a' 142 = a 142 ∧ a' 143 = a 143 ∧ a' 144 = a 144 ∧ a' 145 = a 145 ∧ a'.moves = a.moves
section
variable {a a' : Ab}
theorem bestV_c (S : sPr a a') (d m u : Int) : ∀ k : Nat, bestV a' d m u k = bestV a d m u k
  | 0 => rfl
  | k + 1 => by
    have ih := bestV_c S d m u k
    obtain ⟨h132, h141, h142, h143, h144, h145, hm⟩ := S
    simp only [bestV, ih, Ab.vd, Ab.vm, Ab.vt, Ab.place, h141, h142, h144, h145]
    exact ifc Iff.rfl rfl rfl
theorem prn_c (S : sPr a a') (d m u : Int) : prn a' d m u = prn a d m u := by
  have hb := bestV_c S d m u
  obtain ⟨h132, h141, h142, h143, h144, h145, hm⟩ := S
  simp only [prn, hb, hm, Ab.par, Ab.vp, h132, h143]
theorem now_c (S : sPr a a') (d m : Int) : now a' d m = now a d m := prn_c S d m 99
theorem depF_c (S : sPr a a') (d : Int) : ∀ (F : Nat) (m : Int), depF a' d F m = depF a d F m
  | 0, _ => rfl
  | F + 1, m => by simp only [depF, now_c S, depF_c S d F]
theorem dep_c (S : sPr a a') (d m : Int) : dep a' d m = dep a d m := depF_c S d _ m
theorem upw_c (S : sPr a a') (d k u : Int) : upw a' d k u = upw a d k u := by
  have h := prn_c S d k u
  have h132 := S.1
  simp only [upw, h, Ab.par, h132]
theorem openF_c (S : sPr a a') (h : a' 136 = a 136) (d : Int) : ∀ (F : Nat) (m : Int), openF a' d F m ↔ openF a d F m
  | 0, _ => Iff.rfl
  | F + 1, m => by simp only [openF, now_c S, openF_c S h d F, Ab.hid, h]
theorem opn_c (S : sPr a a') (h : a' 136 = a 136) (d m : Int) : opn a' d m ↔ opn a d m := openF_c S h d _ m
theorem seeP_c (S : sPr a a') (h : a' 136 = a 136) (hs : a' 134 = a 134) {d m : Int} (hk : a'.kind (12 * d + m) = a.kind (12 * d + m)) : seeP a' d m ↔ seeP a d m := by
  simp only [seeP, hk, opn_c S h, Ab.set, hs]
theorem wtF_c (S : sPr a a') (h : a' 133 = a 133) (d top u : Int) : ∀ (F : Nat) (k : Int), wtF a' d top u F k = wtF a d top u F k
  | 0, _ => rfl
  | F + 1, k => by simp only [wtF, upw_c S, wtF_c S h d top u F, Ab.sign, h]
theorem wt_c (S : sPr a a') (h : a' 133 = a 133) (d m top u : Int) : wt a' d m top u = wt a d m top u := wtF_c S h d top u _ m
theorem wbF_c (S : sPr a a') (h : a' 133 = a 133) (hs : a' 134 = a 134) (d m top u : Int) : ∀ k : Nat, wbF a' d m top u k = wbF a d m top u k
  | 0 => rfl
  | k + 1 => by
    simp only [wbF, wbF_c S h hs d m top u k, wt_c S h, Ab.set, hs]
    exact ifc Iff.rfl rfl (ifc Iff.rfl rfl rfl)
theorem wgt_c (S : sPr a a') (h : a' 133 = a 133) (hs : a' 134 = a 134) {d m o u : Int} (hk : a'.kind (12 * d + o) = a.kind (12 * d + o)) : wgt a' d m o u = wgt a d m o u := by
  simp only [wgt, hk, wt_c S h, wbF_c S h hs]
/-- the members and their moves stay -/
def smem (a a' : Ab) : Prop := (∀ q : Nat, (130 ≤ q ∧ q ≤ 136) ∨ (141 ≤ q ∧ q ≤ 145) → a' q = a q) ∧ a'.moves = a.moves
theorem sm_p (S : smem a a') : sPr a a' := ⟨S.1 132 (by omega), S.1 141 (by omega), S.1 142 (by omega), S.1 143 (by omega), S.1 144 (by omega), S.1 145 (by omega), S.2⟩
theorem sm_t (W : WFA a) (S : smem a a') : sTm a a' := by
  have hm := many_b W iD0
  have h130 : a'.many = a.many := S.1 130 (by omega)
  have h131 : a'.kind = a.kind := S.1 131 (by omega)
  have h132 : a'.par = a.par := S.1 132 (by omega)
  exact ⟨by rw [h130]; exact Int.le_refl _, by rw [h130]; exact hm.2, fun k _ _ => by rw [h131, h132]; exact ⟨rfl, rfl⟩, fun k h1 h2 => by rw [h130] at h2; omega⟩
theorem wfa_s (W : WFA a) (S : smem a a') : ∀ k : Nat, k ≤ 7 ∨ k = 9 → wfa a' k := by
  have h130 : a'.many = a.many := S.1 130 (by omega)
  have h131 : a'.kind = a.kind := S.1 131 (by omega)
  have h132 : a'.par = a.par := S.1 132 (by omega)
  have h133 : a'.sign = a.sign := S.1 133 (by omega)
  have h134 : a'.set = a.set := S.1 134 (by omega)
  have h135 : a'.order = a.order := S.1 135 (by omega)
  have h136 : a'.hid = a.hid := S.1 136 (by omega)
  have h141 : a'.vd = a.vd := S.1 141 (by omega)
  have h142 : a'.vm = a.vm := S.1 142 (by omega)
  have h143 : a'.vp = a.vp := S.1 143 (by omega)
  have h144 : a'.vt = a.vt := S.1 144 (by omega)
  have h145 : a'.place = a.place := S.1 145 (by omega)
  have hm := S.2
  intro k hk
  have H := W k
  match k, hk, H with
  | 0, _, H => simp only [wfa, h130] at H ⊢; exact H
  | 1, _, H => simp only [wfa, h131, h136, h132] at H ⊢; exact H
  | 2, _, H => simp only [wfa, thr, h130, h131] at H ⊢; exact H
  | 3, _, H => simp only [wfa, thr, isP, h130, h131, h132, h133] at H ⊢; exact H
  | 4, _, H => simp only [wfa, thr, isP, h130, h131, h134] at H ⊢; exact H
  | 5, _, H => simp only [wfa, thr, h130, h131, h135] at H ⊢; exact H
  | 6, _, H => simp only [wfa, thr, isP, h130, h131, h136] at H ⊢; exact H
  | 7, _, H => simp only [wfa, thr, isP, h130, h131, h141, h142, h143, h144, hm] at H ⊢; exact H
  | 8, hk, _ => omega
  | 9, _, H =>
    obtain ⟨row, c, hc, hp⟩ : ∃ row c, Chn a row c ∧ ∀ i : Int, 0 ≤ i → i < c → a.place (row i) = i := H
    exact ⟨row, c, Chn_t (wT W) (sm_t W S) hc, by rw [h145]; exact hp⟩
  | _ + 10, hk, _ => omega
theorem icd_s (S : smem a a') {σ : Hp} {p : Nat} {d : Int} (H : ICD σ a p d) : ∀ k : Nat, k ≠ 1 → k ≠ 2 → icd σ a' p d k := by
  have h130 : a'.many = a.many := S.1 130 (by omega)
  have h131 : a'.kind = a.kind := S.1 131 (by omega)
  have h132 : a'.par = a.par := S.1 132 (by omega)
  have h133 : a'.sign = a.sign := S.1 133 (by omega)
  have h134 : a'.set = a.set := S.1 134 (by omega)
  have h135 : a'.order = a.order := S.1 135 (by omega)
  have h136 : a'.hid = a.hid := S.1 136 (by omega)
  have h141 : a'.vd = a.vd := S.1 141 (by omega)
  have h142 : a'.vm = a.vm := S.1 142 (by omega)
  have h143 : a'.vp = a.vp := S.1 143 (by omega)
  have h144 : a'.vt = a.vt := S.1 144 (by omega)
  have h145 : a'.place = a.place := S.1 145 (by omega)
  have hm := S.2
  have P := sm_p S
  have see : ∀ m : Int, seeP a' d m ↔ seeP a d m := fun m => seeP_c P (S.1 136 (by omega)) (S.1 134 (by omega)) (by rw [h131])
  have wg : ∀ m o u : Int, wgt a' d m o u = wgt a d m o u := fun m o u => wgt_c P (S.1 133 (by omega)) (S.1 134 (by omega)) (by rw [h131])
  have nm : ∀ k : Nat, nmv a' d k = nmv a d k := by
    intro k
    induction k with
    | zero => rfl
    | succ k ih => simp only [nmv, ih, h141]
  intro k k1 k2
  have G := H k
  match k, k1, k2, G with
  | 0, _, _, G => simp only [icd, h130] at G ⊢; exact G
  | 1, k1, _, _ => omega
  | 2, _, k2, _ => omega
  | 3, _, _, G => simp only [icd, thr, h130, h131] at G ⊢; exact G
  | 4, _, _, G => simp only [icd, thr, isP, h130, h131, h132, h133] at G ⊢; exact G
  | 5, _, _, G => simp only [icd, thr, h130, h131, h134] at G ⊢; exact G
  | 6, _, _, G => simp only [icd, thr, h130, h131, h135] at G ⊢; exact G
  | 7, _, _, G => simp only [icd, h136] at G ⊢; exact G
  | 8, _, _, G => simp only [icd, thr, isP, h130, h131, now_c P] at G ⊢; exact G
  | 9, _, _, G => simp only [icd, thr, isP, h130, h131, dep_c P] at G ⊢; exact G
  | 10, _, _, G => simp only [icd, thr, h130, see] at G ⊢; exact G
  | 11, _, _, G => simp only [icd, thr, isP, h130, h131, wg] at G ⊢; exact G
  | 12, _, _, G => simp only [icd, thr, isP, h130, h131, wg, h145] at G ⊢; exact G
  | 13, _, _, G => simp only [icd, h141, h142, h143, h144, nm, hm] at G ⊢; exact G
  | _ + 14, _, _, _ => trivial
/-- chosen and picked stay too -/
def spk (a a' : Ab) : Prop := a' 163 = a 163 ∧ a' 164 = a 164 ∧ a' 165 = a 165
theorem ICD_s (S : smem a a') (P : spk a a') {σ : Hp} {p : Nat} {d : Int} (H : ICD σ a p d) : ICD σ a' p d := by
  have h163 : a'.chos = a.chos := P.1
  have h164 : a'.pick = a.pick := P.2.1
  have h165 : a'.picks = a.picks := P.2.2
  intro k
  by_cases k1 : k = 1
  · subst k1; have := H 1; simp only [icd, h163] at this ⊢; exact this
  · by_cases k2 : k = 2
    · subst k2; have := H 2; simp only [icd, h164, h165] at this ⊢; exact this
    · exact icd_s S H k k1 k2
theorem ICT_s (W : WFA a) (S : smem a a') {σ : Hp} (H : ICT σ a) : ICT σ a' := by
  have h130 : a'.many = a.many := S.1 130 (by omega)
  have h131 : a'.kind = a.kind := S.1 131 (by omega)
  have h145 : a'.place = a.place := S.1 145 (by omega)
  intro k
  match k with
  | 0 =>
    have h0 : Chn a (σ 93) (σ 92 0) ∧ ∀ i : Int, 0 ≤ i → i < σ 92 0 → a.place (σ 93 i) = i := H 0
    exact ⟨Chn_t (wT W) (sm_t W S) h0.1, by rw [h145]; exact h0.2⟩
  | 1 =>
    have h1 : ∀ m : Int, 0 ≤ m → m < 12 → σ 94 m = @ite _ (thr a 0 m ∧ isP a 0 m) (Classical.propDecidable _) (a.place m) (-1) := H 1
    intro m m0 m1
    have e : (thr a' 0 m ∧ isP a' 0 m) ↔ (thr a 0 m ∧ isP a 0 m) := by simp only [thr, isP, h130, h131]
    rw [h145, h1 m m0 m1]
    by_cases g : thr a 0 m ∧ isP a 0 m
    · rw [if_pos g, if_pos (e.mpr g)]
    · rw [if_neg g, if_neg (fun q => g (e.mp q))]
  | _ + 2 => trivial
def smea (a a' : Ab) : Prop := a' 146 = a 146 ∧ a' 147 = a 147 ∧ a' 148 = a 148 ∧ a' 149 = a 149 ∧ a'.measures = a.measures
theorem ndsF_c (S : smea a a') (o : Int) : ∀ (F : Nat) (m : Int), ndsF a' o F m ↔ ndsF a o F m
  | 0, _ => Iff.rfl
  | F + 1, m => by simp only [ndsF, ndsF_c S o F, Ab.mk, Ab.ma, Ab.mb, S.1, S.2.1, S.2.2.1]
theorem nds_c (S : smea a a') (m o : Int) : nds a' m o ↔ nds a m o := ndsF_c S o _ m
theorem ICM_s (S : smea a a') {σ : Hp} (H : ICM σ a) : ICM σ a' := by
  have h1 : a'.mk = a.mk := S.1
  have h2 : a'.ma = a.ma := S.2.1
  have h3 : a'.mb = a.mb := S.2.2.1
  have h4 : a'.md = a.md := S.2.2.2.1
  have h5 := S.2.2.2.2
  intro k
  have G := H k
  match k, G with
  | 0, G => simp only [icm, h5] at G ⊢; exact G
  | 1, G => simp only [icm, h5, h1, h2, h3] at G ⊢; exact G
  | 2, G => simp only [icm, h5, nds_c S] at G ⊢; exact G
  | 3, G => simp only [icm, h4] at G ⊢; exact G
  | _ + 4, _ => trivial
theorem wfa_m (W : WFA a) (S : smea a a') : ∀ k : Nat, k = 10 ∨ k = 11 → wfa a' k := by
  have h1 : a'.mk = a.mk := S.1
  have h2 : a'.ma = a.ma := S.2.1
  have h3 : a'.mb = a.mb := S.2.2.1
  have h4 : a'.md = a.md := S.2.2.2.1
  have h5 := S.2.2.2.2
  intro k hk
  rcases hk with rfl | rfl
  · have := W 10; simp only [wfa, h1, h2, h3, h5] at this ⊢; exact this
  · have := W 11; simp only [wfa, h4] at this ⊢; exact this
/-- the facts, and those saved -/
def sfac (a a' : Ab) : Prop := (∀ q : Nat, 150 ≤ q → q ≤ 159 → a' q = a q) ∧ a'.facts = a.facts ∧ a'.saved = a.saved
theorem ICF_s (S : sfac a a') {σ : Hp} (H : ICF σ a) : ICF σ a' := by
  have h0 : a'.ft = a.ft := S.1 150 (by omega) (by omega)
  have h1 : a'.fa = a.fa := S.1 151 (by omega) (by omega)
  have h2 : a'.fb = a.fb := S.1 152 (by omega) (by omega)
  have h3 : a'.fm = a.fm := S.1 153 (by omega) (by omega)
  have h4 : a'.fv = a.fv := S.1 154 (by omega) (by omega)
  have h5 : a'.st = a.st := S.1 155 (by omega) (by omega)
  have h6 : a'.sa = a.sa := S.1 156 (by omega) (by omega)
  have h7 : a'.sb = a.sb := S.1 157 (by omega) (by omega)
  have h8 : a'.sm = a.sm := S.1 158 (by omega) (by omega)
  have h9 : a'.sv = a.sv := S.1 159 (by omega) (by omega)
  have hf := S.2.1
  have hs := S.2.2
  intro k
  have G := H k
  match k, G with
  | 0, G => simp only [icf, h0, h1, h2, h3, h4, hf] at G ⊢; exact G
  | 1, G => simp only [icf, hs] at G ⊢; exact G
  | 2, G => simp only [icf, h5, h6, h7, h8, h9, hs] at G ⊢; exact G
  | _ + 3, _ => trivial
theorem wfa_f (W : WFA a) (S : smem a a') (M : smea a a') (F : sfac a a') : ∀ k : Nat, k = 12 ∨ k = 13 ∨ k = 18 ∨ k = 19 → wfa a' k := by
  have h130 : a'.many = a.many := S.1 130 (by omega)
  have h131 : a'.kind = a.kind := S.1 131 (by omega)
  have m1 : a'.mk = a.mk := M.1
  have m5 := M.2.2.2.2
  have h0 : a'.ft = a.ft := F.1 150 (by omega) (by omega)
  have h1 : a'.fa = a.fa := F.1 151 (by omega) (by omega)
  have h2 : a'.fb = a.fb := F.1 152 (by omega) (by omega)
  have h3 : a'.fm = a.fm := F.1 153 (by omega) (by omega)
  have h4 : a'.fv = a.fv := F.1 154 (by omega) (by omega)
  have h5 : a'.st = a.st := F.1 155 (by omega) (by omega)
  have h6 : a'.sa = a.sa := F.1 156 (by omega) (by omega)
  have h7 : a'.sb = a.sb := F.1 157 (by omega) (by omega)
  have h8 : a'.sm = a.sm := F.1 158 (by omega) (by omega)
  have h9 : a'.sv = a.sv := F.1 159 (by omega) (by omega)
  have hf := F.2.1
  have hs := F.2.2
  intro k hk
  rcases hk with rfl | rfl | rfl | rfl
  · have := W 12; simp only [wfa, thr, isP, h130, h131, m1, m5, h0, h1, h2, h3, h4, hf] at this ⊢; exact this
  · have := W 13; simp only [wfa, thr, isP, h130, h131, m1, m5, h5, h6, h7, h8, h9, hs] at this ⊢; exact this
  · have := W 18; simp only [wfa, h0, h1, h2, h3, hf] at this ⊢; exact this
  · have := W 19; simp only [wfa, h5, h6, h7, h8, hs] at this ⊢; exact this
theorem wfa_k0 (h : a'.keeps = 0) : wfa a' 14 := ⟨by omega, by omega, fun k h0 h1 => by omega⟩
theorem wfa_k (W : WFA a) (S : smem a a') (hm : a'.measures = a.measures) (h1 : a' 162 = a 162) (h2 : a'.keeps = a.keeps) : wfa a' 14 := by
  have h130 : a'.many = a.many := S.1 130 (by omega)
  have hk : a'.kept = a.kept := h1
  have := W 14
  simp only [wfa, thr, h130, hm, hk, h2] at this ⊢; exact this
theorem wfa_p (W : WFA a) (S : smem a a') (P : spk a a') : ∀ k : Nat, k = 15 ∨ k = 16 → wfa a' k := by
  have h130 : a'.many = a.many := S.1 130 (by omega)
  have h131 : a'.kind = a.kind := S.1 131 (by omega)
  have h163 : a'.chos = a.chos := P.1
  have h164 : a'.pick = a.pick := P.2.1
  have h165 : a'.picks = a.picks := P.2.2
  intro k hk
  rcases hk with rfl | rfl
  · have := W 15; simp only [wfa, thr, h130, h163] at this ⊢; exact this
  · have := W 16; simp only [wfa, thr, isP, h130, h131, h164, h165] at this ⊢; exact this
theorem wfa_8 (W : WFA a) (h1 : a'.asNow = a.asNow) (h2 : a'.leave = a.leave) : wfa a' 8 := by
  have := W 8; simp only [wfa, h1, h2] at this ⊢; exact this
theorem wfa_17 (W : WFA a) (h : a'.len 36 = a.len 36) : wfa a' 17 := by
  have := W 17; simp only [wfa, h] at this ⊢; exact this
/-- all of the reference's bounds, one by one -/
theorem WFA_all (h0 : ∀ k : Nat, k ≤ 7 ∨ k = 9 → wfa a' k) (h8 : wfa a' 8) (hm : ∀ k : Nat, k = 10 ∨ k = 11 → wfa a' k) (hf : ∀ k : Nat, k = 12 ∨ k = 13 ∨ k = 18 ∨ k = 19 → wfa a' k) (hk : wfa a' 14) (hp : ∀ k : Nat, k = 15 ∨ k = 16 → wfa a' k) (h17 : wfa a' 17) : WFA a' := by
  intro k
  by_cases e0 : k ≤ 7 ∨ k = 9
  · exact h0 k e0
  · by_cases e8 : k = 8
    · subst e8; exact h8
    · by_cases em : k = 10 ∨ k = 11
      · exact hm k em
      · by_cases ef : k = 12 ∨ k = 13 ∨ k = 18 ∨ k = 19
        · exact hf k ef
        · by_cases e14 : k = 14
          · subst e14; exact hk
          · by_cases ep : k = 15 ∨ k = 16
            · exact hp k ep
            · by_cases e17 : k = 17
              · subst e17; exact h17
              · obtain ⟨j, rfl⟩ : ∃ j, k = j + 20 := ⟨k - 20, by omega⟩
                trivial
/-- the words of the formulas stay -/
def swd (a a' : Ab) : Prop := a' 137 = a 137 ∧ a' 138 = a 138 ∧ a' 139 = a 139 ∧ a' 140 = a 140
theorem pilF_c (h : a' 137 = a 137) (s : Int) : ∀ k : Nat, pilF a' s k = pilF a s k
  | 0 => rfl
  | k + 1 => by
    simp only [pilF, pilF_c h s k, Ab.what, h]
    exact ifc Iff.rfl rfl rfl
theorem wrdOk_c (S : swd a a') (s : Int) : wrdOk a' s ↔ wrdOk a s := by
  simp only [wrdOk, pilF_c S.1, Ab.what, Ab.one, Ab.two, Ab.len, S.1, S.2.1, S.2.2.1, S.2.2.2]
theorem WFW_s (K : WFW a) (S : swd a a') (M : smem a a') : WFW a' := by
  have h130 : a'.many = a.many := M.1 130 (by omega)
  have h131 : a'.kind = a.kind := M.1 131 (by omega)
  have h1 : a'.what = a.what := S.1
  have h2 : a'.one = a.one := S.2.1
  have h4 : a'.len = a.len := S.2.2.2
  intro k
  have G := K k
  match k, G with
  | 0, G => simp only [wfw] at G ⊢; exact (wrdOk_c S 36).mpr G
  | 1, G => simp only [wfw, thr, h130, h131, h1, h2, h4, wrdOk_c S, pilF_c S.1] at G ⊢; exact G
  | _ + 2, _ => trivial
theorem ICW_s (S : swd a a') (M : smem a a') {σ : Hp} {n : Nat} (H : ICW σ a n) : ICW σ a' n := by
  have h130 : a'.many = a.many := M.1 130 (by omega)
  have h131 : a'.kind = a.kind := M.1 131 (by omega)
  have h1 : a'.what = a.what := S.1
  have h2 : a'.one = a.one := S.2.1
  have h3 : a'.two = a.two := S.2.2.1
  have h4 : a'.len = a.len := S.2.2.2
  intro k
  have G := H k
  match k, G with
  | 0, G => simp only [icw, fHd, h1, h2, h3, h4, pilF_c S.1] at G ⊢; exact G
  | 1, G => simp only [icw, fHd, thr, h130, h131, h1, h2, h3, h4] at G ⊢; exact G
  | 2, G => exact G
  | _ + 3, _ => trivial
end
