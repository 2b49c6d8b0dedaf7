/-! ===== values do not change where what they rest on stays ===== -/
def sval (a a' : Ab) : Prop := smem a a' ∧ smea a a' ∧ (a'.asNow = a.asNow ∧ a'.leave = a.leave) ∧ (∀ q : Nat, 150 ≤ q → q ≤ 154 → a' q = a q) ∧ a'.facts = a.facts ∧ (∀ i : Int, i < 360 → a'.what i = a.what i ∧ a'.one i = a.one i ∧ a'.two i = a.two i) ∧ ∀ s : Int, s < 36 → a'.len s = a.len s
section
variable {a a' : Ab}
theorem cnt_c (S : smem a a') (h : a'.asNow = a.asNow ∧ a'.leave = a.leave) (pt px py t x y : Int) : cnt a' pt px py t x y = cnt a pt px py t x y := by
  have P := sm_p S
  have h131 : a'.kind = a.kind := S.1 131 (by omega)
  have h145 : a'.place = a.place := S.1 145 (by omega)
  have u : until_ a' pt = until_ a pt := by simp only [until_, h.1, h145]
  have g : ∀ d m o v : Int, wgt a' d m o v = wgt a d m o v := fun d m o v => wgt_c P (S.1 133 (by omega)) (S.1 134 (by omega)) (by rw [h131])
  have s : ∀ d m : Int, seeP a' d m ↔ seeP a d m := fun d m => seeP_c P (S.1 136 (by omega)) (S.1 134 (by omega)) (by rw [h131])
  unfold cnt
  rw [u, g, g, g, h.2]
  by_cases q : wgt a 0 pt t (until_ a pt) = 2 ∨ wgt a 1 px x (until_ a pt) = 2 ∨ wgt a 2 py y (until_ a pt) = 2 ∨ (a.leave ≠ 0 ∧ ¬ (seeP a 0 pt ∧ seeP a 1 px ∧ seeP a 2 py))
  · rw [if_pos q, if_pos (by rw [s, s, s]; exact q)]
  · rw [if_neg q, if_neg (by rw [s, s, s]; exact q)]
theorem cnf_c (S : sval a a') (m t x y : Int) : cnf a' m t x y = cnf a m t x y := by
  funext f
  have h0 : a'.ft = a.ft := S.2.2.2.1 150 (by omega) (by omega)
  have h1 : a'.fa = a.fa := S.2.2.2.1 151 (by omega) (by omega)
  have h2 : a'.fb = a.fb := S.2.2.2.1 152 (by omega) (by omega)
  have h3 : a'.fm = a.fm := S.2.2.2.1 153 (by omega) (by omega)
  simp only [cnf, h0, h1, h2, h3, cnt_c S.1 S.2.2.1]
theorem plnV_c (S : sval a a') (m t x y : Int) : plnV a' m t x y = plnV a m t x y := by
  have h0 : a'.ft = a.ft := S.2.2.2.1 150 (by omega) (by omega)
  have h4 : a'.fv = a.fv := S.2.2.2.1 154 (by omega) (by omega)
  have h145 : a'.place = a.place := S.1.1 145 (by omega)
  have hk : a'.mk = a.mk := S.2.1.1
  have hf := S.2.2.2.2.1
  unfold plnV
  rw [cnf_c S, h0, h4, h145, hk, hf]
theorem whoF_c (S : sval a a') (t x y : Int) : ∀ (F : Nat) (m : Int), whoF a' t x y F m = whoF a t x y F m
  | 0, _ => rfl
  | F + 1, m => by
    have hk : a'.mk = a.mk := S.2.1.1
    have ha : a'.ma = a.ma := S.2.1.2.1
    have hb : a'.mb = a.mb := S.2.1.2.2.1
    unfold whoF
    rw [hk, ha, hb, whoF_c S t x y F, whoF_c S t x y F, plnV_c S]
theorem who_c (S : sval a a') (m t x y : Int) : who a' m t x y = who a m t x y := whoF_c S t x y _ m
theorem nth_c (S : sval a a') (m t x y : Int) : nth a' m t x y ↔ nth a m t x y := by
  have P := sm_p S.1
  have h131 : a'.kind = a.kind := S.1.1 131 (by omega)
  have h4 : a'.md = a.md := S.2.1.2.2.2.1
  simp only [nth, isP, h131, h4, dep_c P]
theorem lead_c (S : smem a a') (t x y : Int) : lead a' t x y = lead a t x y := by
  have h131 : a'.kind = a.kind := S.1 131 (by omega)
  have h135 : a'.order = a.order := S.1 135 (by omega)
  have o : ∀ d m : Int, ord a' d m = ord a d m := fun d m => by simp only [ord, h131, h135]
  simp only [lead, o]
theorem prvF_c (S : smem a a') (t b : Int) : ∀ k : Nat, prvF a' t b k = prvF a t b k
  | 0 => rfl
  | k + 1 => by
    have P := sm_p S
    have h131 : a'.kind = a.kind := S.1 131 (by omega)
    have h145 : a'.place = a.place := S.1 145 (by omega)
    simp only [prvF, prvF_c S t b k, isP, h131, h145, dep_c P]
theorem bckF_c (S : smem a a') (t : Int) : ∀ (s : Nat) (b : Int), bckF a' t s b = bckF a t s b
  | 0, _ => rfl
  | s + 1, b => by
    have h130 : a'.many = a.many := S.1 130 (by omega)
    simp only [bckF, prv, h130, prvF_c S, bckF_c S t s]
theorem lokV_c (S : smem a a') (v : Int → Int → Int → Int) (d z s t x y : Int) : lokV v a' d z s t x y = lokV v a d z s t x y := by
  have h131 : a'.kind = a.kind := S.1 131 (by omega)
  have b : ∀ t s : Int, bck a' t s = bck a t s := fun t s => bckF_c S t _ t
  unfold lokV
  by_cases hs : s = 0
  · rw [if_pos hs, if_pos hs]
  · rw [if_neg hs, if_neg hs, b]
    exact ifc (by simp only [isP, h131]) rfl rfl
theorem datF_cc (S : smem a a') (v : Int → Int) (t : Int) : ∀ k : Nat, datF v a' t k = datF v a t k
  | 0 => rfl
  | k + 1 => by
    have h131 : a'.kind = a.kind := S.1 131 (by omega)
    have h132 : a'.par = a.par := S.1 132 (by omega)
    rw [datF_s, datF_s, datF_cc S v t k]
    exact ifc (by simp only [isP, h131, h132]) rfl rfl
theorem datV_c (S : smem a a') (v : Int → Int → Int → Int) (d z t x y : Int) : datV v a' d z t x y = datV v a d z t x y := by
  have h131 : a'.kind = a.kind := S.1 131 (by omega)
  unfold datV
  exact ifc (by simp only [isP, h131]) (datF_cc S _ _ _) rfl
theorem frmF_cc (S : sval a a') (v : Int → Int → Int → Int) (d t x y own : Int) (ho : own < 36) : ∀ k : Nat, k ≤ 10 → frmF v a' d t x y own k = frmF v a d t x y own k
  | 0, _ => rfl
  | k + 1, hk => by
    have ih := frmF_cc S v d t x y own ho k (by omega)
    have hw := S.2.2.2.2.2.1 (10 * own + k) (by omega)
    show wrdV v a' d t x y (10 * own + k) (frmF v a' d t x y own k) = wrdV v a d t x y (10 * own + k) (frmF v a d t x y own k)
    rw [ih]
    unfold wrdV
    rw [hw.1, hw.2.1, hw.2.2, lokV_c S.1, datV_c S.1]
theorem frm_cc (W : WFA a) (K : WFW a) (S : sval a a') (v : Int → Int → Int → Int) {d t x y : Int} (hd : inD d) (h : cin a t x y) (hk : a.kind (12 * d + crd d t x y) = 2) : frm v a' d t x y = frm v a d t x y := by
  have hct := crd_t hd h
  have hw := wds K hd hct hk
  have c12 := thr12 W hd hct
  have hd' := inD_b hd
  have hl := S.2.2.2.2.2.2 (12 * d + crd d t x y) (by omega)
  show (frmF v a' d t x y (12 * d + crd d t x y) (a'.len (12 * d + crd d t x y)).toNat).headD zNO = (frmF v a d t x y (12 * d + crd d t x y) (a.len (12 * d + crd d t x y)).toNat).headD zNO
  rw [hl, frmF_cc S v d t x y _ (by omega) _ (by have := hw.2.1.2.1; omega)]
theorem valF_c (W : WFA a) (K : WFW a) (S : sval a a') (m : Int) : ∀ (F : Nat) (t x y : Int), cin a t x y → valF a' m F t x y = valF a m F t x y
  | 0, _, _, _, _ => rfl
  | F + 1, t, x, y, h => by
    unfold valF
    rw [lead_c S.1]
    rcases lead_d W h with l | l
    · have hn : ¬ 0 ≤ lead a t x y := by omega
      rw [if_neg hn, if_neg hn, who_c S]
      by_cases g : nth a m t x y
      · rw [if_pos g, if_pos ((nth_c S m t x y).mpr g)]
      · rw [if_neg g, if_neg (fun q => g ((nth_c S m t x y).mp q))]
    · rw [if_pos l.2.1, if_pos l.2.1, frm_cc W K S _ l.1 h l.2.2]
      exact frm_c W K l.1 h l.2.2 (fun t' x' y' h' _ => valF_c W K S m F t' x' y' h')
theorem val_cc (W : WFA a) (K : WFW a) (S : sval a a') {m t x y : Int} (h : cin a t x y) : val a' m t x y = val a m t x y := valF_c W K S m 36 t x y h
theorem ICV_s (W : WFA a) (K : WFW a) (S : sval a a') {σ σ' : Hp} {B B' : Int} (V : ICV σ a B) (h1 : σ' 161 = σ 161) (h0 : σ' 160 = σ 160) (h2 : σ' 129 38 = σ 129 38) (h3 : σ' 129 46 = σ 129 46) (hB : B ≤ B') : ICV σ' a' B' := by
  have V' : ICV σ' a B' := ICV_f V h1 h0 h2 h3 hB
  have h130 : a'.many = a.many := S.1.1 130 (by omega)
  have hm := S.2.1.2.2.2.2
  intro k
  have G := V' k
  match k, G with
  | 0, G => exact G
  | 1, G =>
    intro t x y m ht hx hy m0 m1
    simp only [thr, h130] at ht hx hy
    rw [hm] at m1
    have g := (show ∀ t x y m : Int, thr a 0 t → thr a 1 x → thr a 2 y → 0 ≤ m → m < a.measures → (σ' 161 (576 * t + 48 * x + 4 * y + m) = σ' 129 38 → σ' 160 (576 * t + 48 * x + 4 * y + m) = val a m t x y) ∧ (σ' 161 (6912 + 576 * t + 48 * x + 4 * y + m) = σ' 129 38 → lead a t x y = -1 ∧ σ' 160 (6912 + 576 * t + 48 * x + 4 * y + m) = who a m t x y) from G) t x y m ht hx hy m0 m1
    rw [val_cc W K S ⟨ht, hx, hy⟩, lead_c S.1, who_c S]
    exact g
  | 2, G => exact G
  | _ + 3, _ => trivial
/-- what is kept stays right -/
theorem ICK_s (W : WFA a) (K : WFW a) (S : sval a a') (hk : a'.keeps = a.keeps) (hh : a'.hits = a.hits) (hq : a' 162 = a 162) {σ : Hp} (H : ICK σ a) : ICK σ a' := by
  have h130 : a'.many = a.many := S.1.1 130 (by omega)
  have hm := S.2.1.2.2.2.2
  have hq' : a'.kept = a.kept := hq
  intro k
  have G := H k
  match k, G with
  | 0, G => simp only [ick, hk, hh] at G ⊢; exact G
  | 1, G =>
    intro k k0 k1 t x y m ht hx hy m0 m1 e
    simp only [thr, h130] at ht hx hy
    rw [hm] at m1
    rw [hk] at k1
    rw [hq'] at e
    have g := (show ∀ k : Int, 0 ≤ k → k < a.keeps → ∀ t x y m : Int, thr a 0 t → thr a 1 x → thr a 2 y → 0 ≤ m → m < a.measures → a.kept k = 576 * t + 48 * x + 4 * y + m → σ 109 k = 144 * t + 12 * x + y ∧ σ 110 k = m ∧ σ 111 k = val a m t x y from G) k k0 k1 t x y m ht hx hy m0 m1 e
    rw [val_cc W K S ⟨ht, hx, hy⟩]
    exact g
  | _ + 2, _ => trivial
end
