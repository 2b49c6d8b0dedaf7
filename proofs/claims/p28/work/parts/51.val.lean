/-! ===== values: what they rest on ===== -/
def cin (a : Ab) (t x y : Int) : Prop := thr a 0 t ∧ thr a 1 x ∧ thr a 2 y
def crd (d t x y : Int) : Int := if d = 0 then t else if d = 1 then x else y
def ck1 (a : Ab) (d m : Int) : Int := if a.kind (12 * d + m) = 2 then m else 0
/-- the numbers of the calculated members, added -/
def crk (a : Ab) (t x y : Int) : Int := ck1 a 0 t + ck1 a 1 x + ck1 a 2 y
theorem ck1_b (a : Ab) {d m : Int} (h : 0 ≤ m) : 0 ≤ ck1 a d m ∧ ck1 a d m ≤ m := by
  unfold ck1
  by_cases e : a.kind (12 * d + m) = 2
  · rw [if_pos e]; omega
  · rw [if_neg e]; omega
theorem ck1_p {a : Ab} {d m : Int} (h : isP a d m) : ck1 a d m = 0 := by
  unfold ck1
  have : a.kind (12 * d + m) = 0 := h
  rw [if_neg (by omega)]
theorem ck1_c {a : Ab} {d m : Int} (h : a.kind (12 * d + m) = 2) : ck1 a d m = m := by
  unfold ck1; rw [if_pos h]
theorem crk_b {a : Ab} (W : WFA a) {t x y : Int} (h : cin a t x y) : 0 ≤ crk a t x y ∧ crk a t x y ≤ 33 := by
  have h0 := thr12 W iD0 h.1
  have h1 := thr12 W iD1 h.2.1
  have h2 := thr12 W iD2 h.2.2
  have k0 := ck1_b a (d := 0) h0.1
  have k1 := ck1_b a (d := 1) h1.1
  have k2 := ck1_b a (d := 2) h2.1
  unfold crk; omega
theorem ord_b {a : Ab} (W : WFA a) {d m : Int} (hd : inD d) (ht : thr a d m) : (a.kind (12 * d + m) = 2 ∧ ord a d m = a.order (12 * d + m) ∧ 0 ≤ ord a d m ∧ ord a d m ≤ 100) ∨ (a.kind (12 * d + m) ≠ 2 ∧ ord a d m = -1) := by
  have h5 := (show ∀ d m : Int, inD d → thr a d m → a.kind (12 * d + m) = 2 → 0 ≤ a.order (12 * d + m) ∧ a.order (12 * d + m) ≤ 100 from W 5) d m hd ht
  unfold ord
  by_cases h : a.kind (12 * d + m) = 2
  · rw [if_pos h]; exact Or.inl ⟨h, rfl, (h5 h).1, (h5 h).2⟩
  · rw [if_neg h]; exact Or.inr ⟨h, rfl⟩
theorem lead_d {a : Ab} (W : WFA a) {t x y : Int} (h : cin a t x y) : (lead a t x y = -1 ∧ a.kind (12 * 0 + t) ≠ 2 ∧ a.kind (12 * 1 + x) ≠ 2 ∧ a.kind (12 * 2 + y) ≠ 2) ∨ (inD (lead a t x y) ∧ 0 ≤ lead a t x y ∧ a.kind (12 * lead a t x y + crd (lead a t x y) t x y) = 2) := by
  have o0 := ord_b W iD0 h.1
  have o1 := ord_b W iD1 h.2.1
  have o2 := ord_b W iD2 h.2.2
  unfold lead
  by_cases h2 : ord a 2 y ≠ -1 ∧ ord a 0 t ≤ ord a 2 y ∧ ord a 1 x ≤ ord a 2 y
  · rw [if_pos h2]
    refine Or.inr ⟨iD2, by omega, ?_⟩
    show a.kind (12 * 2 + y) = 2
    rcases o2 with o | o
    · exact o.1
    · exact absurd o.2 h2.1
  · rw [if_neg h2]
    by_cases h1 : ord a 1 x ≠ -1 ∧ ord a 0 t ≤ ord a 1 x
    · rw [if_pos h1]
      refine Or.inr ⟨iD1, by omega, ?_⟩
      show a.kind (12 * 1 + x) = 2
      rcases o1 with o | o
      · exact o.1
      · exact absurd o.2 h1.1
    · rw [if_neg h1]
      by_cases h0 : ord a 0 t ≠ -1
      · rw [if_pos h0]
        refine Or.inr ⟨iD0, by omega, ?_⟩
        show a.kind (12 * 0 + t) = 2
        rcases o0 with o | o
        · exact o.1
        · exact absurd o.2 h0
      · rw [if_neg h0]
        refine Or.inl ⟨rfl, ?_, ?_, ?_⟩
        · rcases o0 with o | o
          · omega
          · exact o.1
        · rcases o1 with o | o
          · omega
          · exact o.1
        · rcases o2 with o | o
          · omega
          · exact o.1
theorem crd_t {a : Ab} {d t x y : Int} (hd : inD d) (h : cin a t x y) : thr a d (crd d t x y) := by
  unfold crd
  rcases hd with rfl | rfl | rfl
  · rw [if_pos rfl]; exact h.1
  · rw [if_neg (by omega), if_pos rfl]; exact h.2.1
  · rw [if_neg (by omega), if_neg (by omega)]; exact h.2.2
/-- the cell with a lower member in place of the calculated one -/
theorem wd_in {a : Ab} {d z t x y : Int} (hd : inD d) (h : cin a t x y) (hk : a.kind (12 * d + crd d t x y) = 2) (z0 : 0 ≤ z) (z1 : z < crd d t x y) : cin a (withD d z t x y).1 (withD d z t x y).2.1 (withD d z t x y).2.2 ∧ crk a (withD d z t x y).1 (withD d z t x y).2.1 (withD d z t x y).2.2 < crk a t x y := by
  have hc := crd_t hd h
  have e := ck1_c hk
  have hz := ck1_b a (d := d) z0
  unfold crk withD
  unfold crd at hc e z1
  rcases hd with rfl | rfl | rfl
  · rw [if_pos rfl] at hc e z1
    simp only [if_pos, if_neg, show ((0 : Int) = 1) = False by simp, show ((0 : Int) = 2) = False by simp, if_false]
    exact ⟨⟨thr_lt hc z0 (by omega), h.2.1, h.2.2⟩, by omega⟩
  · rw [if_neg (by omega), if_pos rfl] at hc e z1
    simp only [if_pos, if_neg, show ((1 : Int) = 0) = False by simp, show ((1 : Int) = 2) = False by simp, if_false]
    exact ⟨⟨h.1, thr_lt hc z0 (by omega), h.2.2⟩, by omega⟩
  · rw [if_neg (by omega), if_neg (by omega)] at hc e z1
    simp only [if_pos, if_neg, show ((2 : Int) = 0) = False by simp, show ((2 : Int) = 1) = False by simp, if_false]
    exact ⟨⟨h.1, h.2.1, thr_lt hc z0 (by omega)⟩, by omega⟩
theorem prvF_b (a : Ab) (t b : Int) : ∀ k : Nat, prvF a t b k = -1 ∨ (0 ≤ prvF a t b k ∧ prvF a t b k < k ∧ isP a 0 (prvF a t b k) ∧ dep a 0 (prvF a t b k) = dep a 0 t ∧ a.place (prvF a t b k) < a.place b)
  | 0 => Or.inl rfl
  | k + 1 => by
    have ih := prvF_b a t b k
    unfold prvF
    by_cases h : isP a 0 k ∧ dep a 0 k = dep a 0 t ∧ a.place k < a.place b ∧ (prvF a t b k < 0 ∨ a.place (prvF a t b k) < a.place k)
    · rw [if_pos h]; exact Or.inr ⟨by omega, by omega, h.1, h.2.1, h.2.2.1⟩
    · rw [if_neg h]
      rcases ih with ih | ih
      · exact Or.inl ih
      · exact Or.inr ⟨ih.1, by omega, ih.2.2⟩
theorem prv_b {a : Ab} (W : WFA a) (t b : Int) : prv a t b = -1 ∨ (thr a 0 (prv a t b) ∧ isP a 0 (prv a t b) ∧ dep a 0 (prv a t b) = dep a 0 t ∧ a.place (prv a t b) < a.place b) := by
  have hm := many_b W iD0
  rcases prvF_b a t b (a.many 0).toNat with h | h
  · exact Or.inl h
  · refine Or.inr ⟨⟨?_, ?_⟩, h.2.2⟩ <;> unfold prv <;> omega
theorem bckF_b {a : Ab} (W : WFA a) (t : Int) : ∀ (s : Nat) (b : Int), (b < 0 ∨ (thr a 0 b ∧ isP a 0 b)) → (bckF a t s b < 0 ∨ (thr a 0 (bckF a t s b) ∧ isP a 0 (bckF a t s b)))
  | 0, b, h => h
  | s + 1, b, h => by
    unfold bckF
    by_cases e : b < 0
    · rw [if_pos e]; exact Or.inl e
    · rw [if_neg e]
      refine bckF_b W t s _ ?_
      rcases prv_b W t b with g | g
      · exact Or.inl (by omega)
      · exact Or.inr ⟨g.1, g.2.1⟩
theorem bck_b {a : Ab} (W : WFA a) {t s : Int} (ht : thr a 0 t) (hp : isP a 0 t) : bck a t s < 0 ∨ (thr a 0 (bck a t s) ∧ isP a 0 (bck a t s)) := bckF_b W t _ t (Or.inr ⟨ht, hp⟩)
theorem crk_tp {a : Ab} {t t' x y : Int} (h : isP a 0 t) (h' : isP a 0 t') : crk a t' x y = crk a t x y := by
  unfold crk; rw [ck1_p h, ck1_p h']
/-- v and w agree below -/
def agr (a : Ab) (v w : Int → Int → Int → Int) (c : Int) : Prop := ∀ t x y : Int, cin a t x y → crk a t x y < c → v t x y = w t x y
theorem lok_c {a : Ab} (W : WFA a) {v w : Int → Int → Int → Int} {d z s t x y : Int} (hd : inD d) (h : cin a t x y) (hk : a.kind (12 * d + crd d t x y) = 2) (z0 : 0 ≤ z) (z1 : z < crd d t x y) (A : agr a v w (crk a t x y)) : lokV v a d z s t x y = lokV w a d z s t x y := by
  have hw := wd_in hd h hk z0 z1
  unfold lokV
  by_cases hs : s = 0
  · rw [if_pos hs, if_pos hs]; exact A _ _ _ hw.1 hw.2
  · rw [if_neg hs, if_neg hs]
    by_cases hb : isP a 0 (withD d z t x y).1 ∧ 0 ≤ bck a (withD d z t x y).1 s
    · rw [if_pos hb, if_pos hb]
      rcases bck_b W (s := s) hw.1.1 hb.1 with g | g
      · omega
      · exact A _ _ _ ⟨g.1, hw.1.2⟩ (by rw [crk_tp hb.1 g.2]; exact hw.2)
    · rw [if_neg hb, if_neg hb]
theorem datF_c {a : Ab} {v w : Int → Int} {t : Int} : ∀ k : Nat, (∀ i : Int, 0 ≤ i → i < k → isP a 0 i → v i = w i) → datF v a t k = datF w a t k
  | 0, _ => rfl
  | k + 1, h => by
    have ih := datF_c (a := a) (t := t) k (fun i h0 h1 => h i h0 (by omega))
    unfold datF
    by_cases e : isP a 0 k ∧ ((k : Int) = t ∨ (0 < t ∧ 0 < k ∧ a.par k = a.par t))
    · rw [if_pos e, if_pos e, ih, h k (by omega) (by omega) e.1]
    · rw [if_neg e, if_neg e, ih]
theorem dat_c {a : Ab} {v w : Int → Int → Int → Int} {d z t x y : Int} (hd : inD d) (h : cin a t x y) (hk : a.kind (12 * d + crd d t x y) = 2) (z0 : 0 ≤ z) (z1 : z < crd d t x y) (A : agr a v w (crk a t x y)) : datV v a d z t x y = datV w a d z t x y := by
  have hw := wd_in hd h hk z0 z1
  unfold datV
  by_cases hp : isP a 0 (withD d z t x y).1
  · rw [if_pos hp, if_pos hp]
    refine datF_c _ (fun i i0 i1 hi => ?_)
    have h0 := hw.1.1.1
    exact A _ _ _ ⟨thr_lt hw.1.1 i0 (by omega), hw.1.2⟩ (by rw [crk_tp hp hi]; exact hw.2)
  · rw [if_neg hp, if_neg hp]
/-- the words of a calculated member's formula -/
theorem wds {a : Ab} (F : WFW a) {d m : Int} (hd : inD d) (ht : thr a d m) (hk : a.kind (12 * d + m) = 2) : 0 < m ∧ wrdOk a (12 * d + m) ∧ pilF a (12 * d + m) (a.len (12 * d + m)).toNat = 1 ∧ ∀ k : Int, 0 ≤ k → k < a.len (12 * d + m) → a.what (10 * (12 * d + m) + k) = 1 ∨ a.what (10 * (12 * d + m) + k) = 2 → a.one (10 * (12 * d + m) + k) < m := by
  have h : ∀ d m : Int, inD d → thr a d m → a.kind (12 * d + m) = 2 → 0 < m ∧ wrdOk a (12 * d + m) ∧ pilF a (12 * d + m) (a.len (12 * d + m)).toNat = 1 ∧ ∀ k : Int, 0 ≤ k → k < a.len (12 * d + m) → a.what (10 * (12 * d + m) + k) = 1 ∨ a.what (10 * (12 * d + m) + k) = 2 → a.one (10 * (12 * d + m) + k) < m := F 1
  exact h d m hd ht hk
theorem frmF_c {a : Ab} (W : WFA a) (F : WFW a) {v w : Int → Int → Int → Int} {d t x y : Int} (hd : inD d) (h : cin a t x y) (hk : a.kind (12 * d + crd d t x y) = 2) (A : agr a v w (crk a t x y)) : ∀ k : Nat, (k : Int) ≤ a.len (12 * d + crd d t x y) → frmF v a d t x y (12 * d + crd d t x y) k = frmF w a d t x y (12 * d + crd d t x y) k
  | 0, _ => rfl
  | k + 1, hl => by
    have ih := frmF_c W F hd h hk A k (by omega)
    have hw := wds F hd (crd_t hd h) hk
    have hwk := hw.2.1.2.2 k (by omega)
    have hlow := hw.2.2.2 k (by omega) (by omega)
    show wrdV v a d t x y (10 * (12 * d + crd d t x y) + k) (frmF v a d t x y (12 * d + crd d t x y) k) = wrdV w a d t x y (10 * (12 * d + crd d t x y) + k) (frmF w a d t x y (12 * d + crd d t x y) k)
    rw [ih]
    unfold wrdV
    by_cases e0 : a.what (10 * (12 * d + crd d t x y) + k) = 0
    · rw [if_pos e0, if_pos e0]
    · rw [if_neg e0, if_neg e0]
      by_cases e1 : a.what (10 * (12 * d + crd d t x y) + k) = 1
      · rw [if_pos e1, if_pos e1, lok_c W hd h hk (hwk.2.2.2.2.1 (Or.inl e1)).1 (hlow (Or.inl e1)) A]
      · rw [if_neg e1, if_neg e1]
        by_cases e2 : a.what (10 * (12 * d + crd d t x y) + k) = 2
        · rw [if_pos e2, if_pos e2, dat_c hd h hk (hwk.2.2.2.2.1 (Or.inr e2)).1 (hlow (Or.inr e2)) A]
        · rw [if_neg e2, if_neg e2]
theorem frm_c {a : Ab} (W : WFA a) (F : WFW a) {v w : Int → Int → Int → Int} {d t x y : Int} (hd : inD d) (h : cin a t x y) (hk : a.kind (12 * d + crd d t x y) = 2) (A : agr a v w (crk a t x y)) : frm v a d t x y = frm w a d t x y := by
  have hw := wds F hd (crd_t hd h) hk
  show (frmF v a d t x y (12 * d + crd d t x y) (a.len (12 * d + crd d t x y)).toNat).headD zNO = (frmF w a d t x y (12 * d + crd d t x y) (a.len (12 * d + crd d t x y)).toNat).headD zNO
  have := hw.2.1.1
  rw [frmF_c W F hd h hk A _ (by omega)]
theorem valF_st {a : Ab} (W : WFA a) (K : WFW a) (m : Int) : ∀ (F G : Nat) (t x y : Int), cin a t x y → crk a t x y < F → crk a t x y < G → valF a m F t x y = valF a m G t x y := by
  intro F
  induction F with
  | zero => intro G t x y h hF; have := crk_b W h; omega
  | succ F ih =>
    intro G t x y h hF hG
    have hb := crk_b W h
    obtain ⟨G, rfl⟩ : ∃ g, G = g + 1 := ⟨G - 1, by omega⟩
    unfold valF
    rcases lead_d W h with l | l
    · have hn : ¬ 0 ≤ lead a t x y := by omega
      rw [if_neg hn, if_neg hn]
    · rw [if_pos l.2.1, if_pos l.2.1]
      exact frm_c W K l.1 h l.2.2 (fun t' x' y' h' hc => ih G t' x' y' h' (by omega) (by omega))
theorem val_c {a : Ab} (W : WFA a) (K : WFW a) {m t x y : Int} (h : cin a t x y) (hl : 0 ≤ lead a t x y) : val a m t x y = frm (val a m) a (lead a t x y) t x y := by
  have hb := crk_b W h
  show valF a m (35 + 1) t x y = _
  unfold valF
  rw [if_pos hl]
  rcases lead_d W h with l | l
  · omega
  · exact frm_c W K l.1 h l.2.2 (fun t' x' y' h' hc => valF_st W K m 35 36 t' x' y' h' (by omega) (by omega))
theorem val_p {a : Ab} {m t x y : Int} (hl : lead a t x y = -1) : val a m t x y = @ite _ (nth a m t x y) (Classical.propDecidable _) zNO (who a m t x y) := by
  show valF a m (35 + 1) t x y = _
  unfold valF
  rw [if_neg (by omega)]
theorem whoF_st {a : Ab} (W : WFA a) (t x y : Int) : ∀ (F G : Nat) (m : Int), 0 ≤ m → m < a.measures → m < F → m < G → whoF a t x y F m = whoF a t x y G m := by
  intro F
  induction F with
  | zero => intro G m m0 m1 hF; omega
  | succ F ih =>
    intro G m m0 m1 hF hG
    obtain ⟨G, rfl⟩ : ∃ g, G = g + 1 := ⟨G - 1, by omega⟩
    have hm := mea W m0 m1
    unfold whoF
    by_cases h : a.mk m = 3
    · have := hm.2.2.2 h
      rw [if_pos h, if_pos h, ih G (a.ma m) (by omega) (by omega) (by omega) (by omega), ih G (a.mb m) (by omega) (by omega) (by omega) (by omega)]
    · rw [if_neg h, if_neg h]
theorem who_s {a : Ab} (W : WFA a) {m t x y : Int} (m0 : 0 ≤ m) (m1 : m < a.measures) : who a m t x y = if a.mk m = 3 then rat (who a (a.ma m) t x y) (who a (a.mb m) t x y) else plnV a m t x y := by
  have hm := mea W m0 m1
  unfold who
  show (if a.mk m = 3 then rat (whoF a t x y m.toNat (a.ma m)) (whoF a t x y m.toNat (a.mb m)) else plnV a m t x y) = _
  by_cases h : a.mk m = 3
  · have := hm.2.2.2 h
    rw [if_pos h, if_pos h, whoF_st W t x y m.toNat ((a.ma m).toNat + 1) (a.ma m) (by omega) (by omega) (by omega) (by omega), whoF_st W t x y m.toNat ((a.mb m).toNat + 1) (a.mb m) (by omega) (by omega) (by omega) (by omega)]
  · rw [if_neg h, if_neg h]
/-! ===== values are within the bound ===== -/
def okv (v : Int) : Prop := v = zNO ∨ (-zMOST ≤ v ∧ v ≤ zMOST)
theorem bnd_r (v : Int) : -zMOST ≤ bnd v ∧ bnd v ≤ zMOST := by
  unfold bnd zMOST
  by_cases h : (1000000000000 : Int) < v
  · rw [if_pos h]; omega
  · rw [if_neg h]
    by_cases h2 : v < -1000000000000
    · rw [if_pos h2]; omega
    · rw [if_neg h2]; omega
theorem bnd_i {v : Int} (h : -zMOST ≤ v ∧ v ≤ zMOST) : bnd v = v := by
  unfold bnd; rw [if_neg (by omega), if_neg (by omega)]
theorem okv_b (v : Int) : okv (bnd v) := Or.inr (bnd_r v)
theorem okv_no : okv zNO := Or.inl rfl
theorem okv_rat (x y : Int) : okv (rat x y) := by
  unfold rat
  by_cases h : x = zNO ∨ y = zNO ∨ y = 0
  · rw [if_pos h]; exact okv_no
  · rw [if_neg h]; exact okv_b _
theorem okv_pls (x y s : Int) : okv (pls x y s) := by
  unfold pls
  by_cases h : x = zNO ∧ y = zNO
  · rw [if_pos h]; exact okv_no
  · rw [if_neg h]; exact okv_b _
theorem okv_prd (x y : Int) : okv (prd x y) := by
  unfold prd
  by_cases h : x = zNO ∨ y = zNO
  · rw [if_pos h]; exact okv_no
  · rw [if_neg h]; exact okv_b _
theorem okv_jnd (w x y : Int) : okv (jnd w x y) := by
  unfold jnd
  by_cases h : w = 3
  · rw [if_pos h]; exact okv_pls _ _ _
  · rw [if_neg h]
    by_cases h2 : w = 4
    · rw [if_pos h2]; exact okv_pls _ _ _
    · rw [if_neg h2]
      by_cases h3 : w = 5
      · rw [if_pos h3]; exact okv_prd _ _
      · rw [if_neg h3]; exact okv_rat _ _
theorem okv_pln {a : Ab} (W : WFA a) {m t x y : Int} (ht : 0 ≤ t) (hx : 0 ≤ x) (hy : 0 ≤ y) : okv (plnV a m t x y) := by
  have h12 : 0 ≤ a.facts ∧ a.facts ≤ 50 ∧ _ := W 12
  have hall : ∀ f : Int, 0 ≤ f → f < a.facts.toNat → -1 ≤ cnf a m t x y f ∧ cnf a m t x y f ≤ 1 ∧ -1000000 ≤ a.fv f ∧ a.fv f ≤ 1000000 := fun f g0 g1 => by
    have h1 := cnf_r W (m := m) ht hx hy (f := f) g0 (by omega)
    have h2 := (fct W (f := f) g0 (by omega)).2.2.2.2.2.2
    exact ⟨h1.1, h1.2, h2.1, h2.2.1⟩
  have h1 := sumF_b a.facts.toNat hall
  have h2 := lsF_b (pl := fun f => a.place (a.ft f)) a.facts.toNat hall
  have h3 := diffF_b (cnf a m t x y) a.fv a.facts.toNat
  unfold plnV okv zMOST
  by_cases h : lastF (cnf a m t x y) (fun f => a.place (a.ft f)) a.facts.toNat < 0
  · rw [if_pos h]; exact Or.inl rfl
  · rw [if_neg h]
    by_cases k2 : a.mk m = 2
    · rw [if_pos k2]; exact Or.inr (by omega)
    · rw [if_neg k2]
      by_cases k1 : a.mk m = 1
      · rw [if_pos k1]; exact (show okv (lsF (cnf a m t x y) (fun f => a.place (a.ft f)) a.fv a.facts.toNat) from Or.inr (by unfold zMOST; omega))
      · rw [if_neg k1]; exact Or.inr (by omega)
theorem okv_who {a : Ab} (W : WFA a) {m t x y : Int} (h : cin a t x y) (m0 : 0 ≤ m) (m1 : m < a.measures) : okv (who a m t x y) := by
  rw [who_s W m0 m1]
  by_cases h3 : a.mk m = 3
  · rw [if_pos h3]; exact okv_rat _ _
  · rw [if_neg h3]; exact okv_pln W h.1.1 h.2.1.1 h.2.2.1
theorem okv_datF {v : Int → Int} {a : Ab} {t : Int} : ∀ k : Nat, okv (datF v a t k)
  | 0 => okv_no
  | k + 1 => by
    unfold datF
    by_cases e : isP a 0 k ∧ ((k : Int) = t ∨ (0 < t ∧ 0 < k ∧ a.par k = a.par t))
    · rw [if_pos e]; exact okv_pls _ _ _
    · rw [if_neg e]; exact okv_datF k
def okl (l : List Int) : Prop := ∀ v, v ∈ l → okv v
theorem okl_frmF {a : Ab} (W : WFA a) (K : WFW a) {v : Int → Int → Int → Int} {d t x y : Int} (hd : inD d) (h : cin a t x y) (hk : a.kind (12 * d + crd d t x y) = 2) (A : ∀ t' x' y' : Int, cin a t' x' y' → crk a t' x' y' < crk a t x y → okv (v t' x' y')) : ∀ k : Nat, (k : Int) ≤ a.len (12 * d + crd d t x y) → okl (frmF v a d t x y (12 * d + crd d t x y) k) ∧ ((frmF v a d t x y (12 * d + crd d t x y) k).length : Int) = pilF a (12 * d + crd d t x y) k
  | 0, _ => ⟨fun v hv => by simp [frmF] at hv, rfl⟩
  | k + 1, hl => by
    have ih := okl_frmF W K hd h hk A k (by omega)
    have hw := wds K hd (crd_t hd h) hk
    have hwk := hw.2.1.2.2 k (by omega)
    have hlow := hw.2.2.2 k (by omega) (by omega)
    show okl (wrdV v a d t x y (10 * (12 * d + crd d t x y) + k) (frmF v a d t x y (12 * d + crd d t x y) k)) ∧ ((wrdV v a d t x y (10 * (12 * d + crd d t x y) + k) (frmF v a d t x y (12 * d + crd d t x y) k)).length : Int) = if a.what (10 * (12 * d + crd d t x y) + k) < 3 then pilF a (12 * d + crd d t x y) k + 1 else pilF a (12 * d + crd d t x y) k - 1
    have hcons : ∀ q, okv q → okl (q :: frmF v a d t x y (12 * d + crd d t x y) k) ∧ ((q :: frmF v a d t x y (12 * d + crd d t x y) k).length : Int) = pilF a (12 * d + crd d t x y) k + 1 := fun q hq => ⟨fun r hr => by
      rcases List.mem_cons.mp hr with e | e
      · rw [e]; exact hq
      · exact ih.1 r e, by rw [List.length_cons]; omega⟩
    unfold wrdV
    by_cases e0 : a.what (10 * (12 * d + crd d t x y) + k) = 0
    · rw [if_pos e0, if_pos (by omega)]
      have := hwk.2.2.2.1 e0
      exact hcons _ (Or.inr (by unfold zMOST; omega))
    · rw [if_neg e0]
      by_cases e1 : a.what (10 * (12 * d + crd d t x y) + k) = 1
      · rw [if_pos e1, if_pos (by omega)]
        refine hcons _ ?_
        have hwi := wd_in hd h hk (hwk.2.2.2.2.1 (Or.inl e1)).1 (hlow (Or.inl e1))
        unfold lokV
        by_cases hs : a.two (10 * (12 * d + crd d t x y) + k) = 0
        · rw [if_pos hs]; exact A _ _ _ hwi.1 hwi.2
        · rw [if_neg hs]
          by_cases hb : isP a 0 (withD d (a.one (10 * (12 * d + crd d t x y) + k)) t x y).1 ∧ 0 ≤ bck a (withD d (a.one (10 * (12 * d + crd d t x y) + k)) t x y).1 (a.two (10 * (12 * d + crd d t x y) + k))
          · rw [if_pos hb]
            rcases bck_b W (s := a.two (10 * (12 * d + crd d t x y) + k)) hwi.1.1 hb.1 with g | g
            · omega
            · exact A _ _ _ ⟨g.1, hwi.1.2⟩ (by rw [crk_tp hb.1 g.2]; exact hwi.2)
          · rw [if_neg hb]; exact okv_no
      · rw [if_neg e1]
        by_cases e2 : a.what (10 * (12 * d + crd d t x y) + k) = 2
        · rw [if_pos e2, if_pos (by omega)]
          refine hcons _ ?_
          unfold datV
          by_cases hp : isP a 0 (withD d (a.one (10 * (12 * d + crd d t x y) + k)) t x y).1
          · rw [if_pos hp]; exact okv_datF _
          · rw [if_neg hp]; exact okv_no
        · rw [if_neg e2, if_neg (by omega)]
          have h2 := hwk.2.2.1 (by omega)
          generalize frmF v a d t x y (12 * d + crd d t x y) k = st at ih
          match st, ih with
          | [], ih => have := ih.2; simp at this; omega
          | [q], ih => have := ih.2; simp at this; omega
          | q :: p :: r, ih =>
            refine ⟨fun s hs => ?_, ?_⟩
            · rcases List.mem_cons.mp hs with e | e
              · rw [e]; exact okv_jnd _ _ _
              · exact ih.1 s (List.mem_cons_of_mem _ (List.mem_cons_of_mem _ e))
            · have := ih.2
              simp only [List.length_cons] at this ⊢
              omega
theorem okv_head {l : List Int} (h : okl l) : okv (l.headD zNO) := by
  match l, h with
  | [], _ => exact okv_no
  | q :: r, h => exact h q (List.mem_cons_self ..)
theorem okv_valF {a : Ab} (W : WFA a) (K : WFW a) {m : Int} (m0 : 0 ≤ m) (m1 : m < a.measures) : ∀ (F : Nat) (t x y : Int), cin a t x y → okv (valF a m F t x y) := by
  intro F
  induction F with
  | zero => intro t x y h; exact okv_no
  | succ F ih =>
    intro t x y h
    unfold valF
    rcases lead_d W h with l | l
    · rw [if_neg (by omega)]
      by_cases hn : nth a m t x y
      · rw [if_pos hn]; exact okv_no
      · rw [if_neg hn]; exact okv_who W h m0 m1
    · rw [if_pos l.2.1]
      have hw := wds K l.1 (crd_t l.1 h) l.2.2
      have := hw.2.1.1
      show okv ((frmF (valF a m F) a (lead a t x y) t x y (12 * lead a t x y + crd (lead a t x y) t x y) (a.len (12 * lead a t x y + crd (lead a t x y) t x y)).toNat).headD zNO)
      exact okv_head (okl_frmF W K l.1 h l.2.2 (fun t' x' y' h' _ => ih t' x' y' h') _ (by omega)).1
theorem okv_val {a : Ab} (W : WFA a) (K : WFW a) {m t x y : Int} (m0 : 0 ≤ m) (m1 : m < a.measures) (h : cin a t x y) : okv (val a m t x y) := okv_valF W K m0 m1 36 t x y h
