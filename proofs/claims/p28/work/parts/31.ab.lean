/-! ===== what the reference holds, and what it means ===== -/
abbrev Ab : Type := Nat → Int → Int
def Ab.many (a : Ab) : Int → Int := a 130
def Ab.kind (a : Ab) : Int → Int := a 131
def Ab.par (a : Ab) : Int → Int := a 132
def Ab.sign (a : Ab) : Int → Int := a 133
def Ab.set (a : Ab) : Int → Int := a 134
def Ab.order (a : Ab) : Int → Int := a 135
def Ab.hid (a : Ab) : Int → Int := a 136
def Ab.what (a : Ab) : Int → Int := a 137
def Ab.one (a : Ab) : Int → Int := a 138
def Ab.two (a : Ab) : Int → Int := a 139
def Ab.len (a : Ab) : Int → Int := a 140
def Ab.vd (a : Ab) : Int → Int := a 141
def Ab.vm (a : Ab) : Int → Int := a 142
def Ab.vp (a : Ab) : Int → Int := a 143
def Ab.vt (a : Ab) : Int → Int := a 144
def Ab.place (a : Ab) : Int → Int := a 145
def Ab.mk (a : Ab) : Int → Int := a 146
def Ab.ma (a : Ab) : Int → Int := a 147
def Ab.mb (a : Ab) : Int → Int := a 148
def Ab.md (a : Ab) : Int → Int := a 149
def Ab.ft (a : Ab) : Int → Int := a 150
def Ab.fa (a : Ab) : Int → Int := a 151
def Ab.fb (a : Ab) : Int → Int := a 152
def Ab.fm (a : Ab) : Int → Int := a 153
def Ab.fv (a : Ab) : Int → Int := a 154
def Ab.st (a : Ab) : Int → Int := a 155
def Ab.sa (a : Ab) : Int → Int := a 156
def Ab.sb (a : Ab) : Int → Int := a 157
def Ab.sm (a : Ab) : Int → Int := a 158
def Ab.sv (a : Ab) : Int → Int := a 159
def Ab.kept (a : Ab) : Int → Int := a 162
def Ab.chos (a : Ab) : Int → Int := a 163
def Ab.pick (a : Ab) : Int → Int := a 164
def Ab.picks (a : Ab) : Int → Int := a 165
def Ab.moves (a : Ab) : Int := a 129 15
def Ab.asNow (a : Ab) : Int := a 129 16
def Ab.leave (a : Ab) : Int := a 129 17
def Ab.measures (a : Ab) : Int := a 129 23
def Ab.facts (a : Ab) : Int := a 129 29
def Ab.saved (a : Ab) : Int := a 129 35
def Ab.keeps (a : Ab) : Int := a 129 40
def Ab.hits (a : Ab) : Int := a 129 41
/-- what of the world the reference means: its memo and its scratch left out -/
def vwP (q : Nat) (j : Int) : Prop := (130 ≤ q ∧ q ≤ 159) ∨ (162 ≤ q ∧ q ≤ 165) ∨ (q = 129 ∧ (j = 15 ∨ j = 16 ∨ j = 17 ∨ j = 23 ∨ j = 29 ∨ j = 35 ∨ j = 40 ∨ j = 41))
noncomputable def view (σ : Hp) : Ab := fun q j => @ite _ (vwP q j) (Classical.propDecidable _) (σ q j) 0
theorem vw_t {σ : Hp} {q : Nat} {j : Int} (h : vwP q j) : view σ q j = σ q j := if_pos h
theorem vw_f {σ : Hp} {q : Nat} {j : Int} (h : ¬ vwP q j) : view σ q j = 0 := if_neg h
theorem v_many (σ : Hp) (i : Int) : (view σ).many i = σ 130 i := vw_t (Or.inl ⟨by decide, by decide⟩)
theorem v_kind (σ : Hp) (i : Int) : (view σ).kind i = σ 131 i := vw_t (Or.inl ⟨by decide, by decide⟩)
theorem v_par (σ : Hp) (i : Int) : (view σ).par i = σ 132 i := vw_t (Or.inl ⟨by decide, by decide⟩)
theorem v_sign (σ : Hp) (i : Int) : (view σ).sign i = σ 133 i := vw_t (Or.inl ⟨by decide, by decide⟩)
theorem v_set (σ : Hp) (i : Int) : (view σ).set i = σ 134 i := vw_t (Or.inl ⟨by decide, by decide⟩)
theorem v_order (σ : Hp) (i : Int) : (view σ).order i = σ 135 i := vw_t (Or.inl ⟨by decide, by decide⟩)
theorem v_hid (σ : Hp) (i : Int) : (view σ).hid i = σ 136 i := vw_t (Or.inl ⟨by decide, by decide⟩)
theorem v_what (σ : Hp) (i : Int) : (view σ).what i = σ 137 i := vw_t (Or.inl ⟨by decide, by decide⟩)
theorem v_one (σ : Hp) (i : Int) : (view σ).one i = σ 138 i := vw_t (Or.inl ⟨by decide, by decide⟩)
theorem v_two (σ : Hp) (i : Int) : (view σ).two i = σ 139 i := vw_t (Or.inl ⟨by decide, by decide⟩)
theorem v_len (σ : Hp) (i : Int) : (view σ).len i = σ 140 i := vw_t (Or.inl ⟨by decide, by decide⟩)
theorem v_vd (σ : Hp) (i : Int) : (view σ).vd i = σ 141 i := vw_t (Or.inl ⟨by decide, by decide⟩)
theorem v_vm (σ : Hp) (i : Int) : (view σ).vm i = σ 142 i := vw_t (Or.inl ⟨by decide, by decide⟩)
theorem v_vp (σ : Hp) (i : Int) : (view σ).vp i = σ 143 i := vw_t (Or.inl ⟨by decide, by decide⟩)
theorem v_vt (σ : Hp) (i : Int) : (view σ).vt i = σ 144 i := vw_t (Or.inl ⟨by decide, by decide⟩)
theorem v_place (σ : Hp) (i : Int) : (view σ).place i = σ 145 i := vw_t (Or.inl ⟨by decide, by decide⟩)
theorem v_mk (σ : Hp) (i : Int) : (view σ).mk i = σ 146 i := vw_t (Or.inl ⟨by decide, by decide⟩)
theorem v_ma (σ : Hp) (i : Int) : (view σ).ma i = σ 147 i := vw_t (Or.inl ⟨by decide, by decide⟩)
theorem v_mb (σ : Hp) (i : Int) : (view σ).mb i = σ 148 i := vw_t (Or.inl ⟨by decide, by decide⟩)
theorem v_md (σ : Hp) (i : Int) : (view σ).md i = σ 149 i := vw_t (Or.inl ⟨by decide, by decide⟩)
theorem v_ft (σ : Hp) (i : Int) : (view σ).ft i = σ 150 i := vw_t (Or.inl ⟨by decide, by decide⟩)
theorem v_fa (σ : Hp) (i : Int) : (view σ).fa i = σ 151 i := vw_t (Or.inl ⟨by decide, by decide⟩)
theorem v_fb (σ : Hp) (i : Int) : (view σ).fb i = σ 152 i := vw_t (Or.inl ⟨by decide, by decide⟩)
theorem v_fm (σ : Hp) (i : Int) : (view σ).fm i = σ 153 i := vw_t (Or.inl ⟨by decide, by decide⟩)
theorem v_fv (σ : Hp) (i : Int) : (view σ).fv i = σ 154 i := vw_t (Or.inl ⟨by decide, by decide⟩)
theorem v_st (σ : Hp) (i : Int) : (view σ).st i = σ 155 i := vw_t (Or.inl ⟨by decide, by decide⟩)
theorem v_sa (σ : Hp) (i : Int) : (view σ).sa i = σ 156 i := vw_t (Or.inl ⟨by decide, by decide⟩)
theorem v_sb (σ : Hp) (i : Int) : (view σ).sb i = σ 157 i := vw_t (Or.inl ⟨by decide, by decide⟩)
theorem v_sm (σ : Hp) (i : Int) : (view σ).sm i = σ 158 i := vw_t (Or.inl ⟨by decide, by decide⟩)
theorem v_sv (σ : Hp) (i : Int) : (view σ).sv i = σ 159 i := vw_t (Or.inl ⟨by decide, by decide⟩)
theorem v_kept (σ : Hp) (i : Int) : (view σ).kept i = σ 162 i := vw_t (Or.inr (Or.inl ⟨by decide, by decide⟩))
theorem v_chos (σ : Hp) (i : Int) : (view σ).chos i = σ 163 i := vw_t (Or.inr (Or.inl ⟨by decide, by decide⟩))
theorem v_pick (σ : Hp) (i : Int) : (view σ).pick i = σ 164 i := vw_t (Or.inr (Or.inl ⟨by decide, by decide⟩))
theorem v_picks (σ : Hp) (i : Int) : (view σ).picks i = σ 165 i := vw_t (Or.inr (Or.inl ⟨by decide, by decide⟩))
theorem v_moves (σ : Hp) : (view σ).moves = σ 129 15 := vw_t (Or.inr (Or.inr ⟨rfl, by decide⟩))
theorem v_asNow (σ : Hp) : (view σ).asNow = σ 129 16 := vw_t (Or.inr (Or.inr ⟨rfl, by decide⟩))
theorem v_leave (σ : Hp) : (view σ).leave = σ 129 17 := vw_t (Or.inr (Or.inr ⟨rfl, by decide⟩))
theorem v_measures (σ : Hp) : (view σ).measures = σ 129 23 := vw_t (Or.inr (Or.inr ⟨rfl, by decide⟩))
theorem v_facts (σ : Hp) : (view σ).facts = σ 129 29 := vw_t (Or.inr (Or.inr ⟨rfl, by decide⟩))
theorem v_saved (σ : Hp) : (view σ).saved = σ 129 35 := vw_t (Or.inr (Or.inr ⟨rfl, by decide⟩))
theorem v_keeps (σ : Hp) : (view σ).keeps = σ 129 40 := vw_t (Or.inr (Or.inr ⟨rfl, by decide⟩))
theorem v_hits (σ : Hp) : (view σ).hits = σ 129 41 := vw_t (Or.inr (Or.inr ⟨rfl, by decide⟩))
def zNO : Int := -9223372036854775808
def zMOST : Int := 1000000000000
def bnd (v : Int) : Int := if zMOST < v then zMOST else if v < -zMOST then -zMOST else v
/-- bit k of x -/
abbrev bitP (x k : Int) : Prop := (x / 2 ^ k.toNat) % 2 = 1
abbrev isP (a : Ab) (d m : Int) : Prop := a.kind (12 * d + m) = 0
/-- there is the member m of dimension d -/
abbrev thr (a : Ab) (d m : Int) : Prop := 0 ≤ m ∧ m < a.many d
def bestV (a : Ab) (d m u : Int) : Nat → Int
  | 0 => -1
  | k + 1 => if a.vd k = d ∧ a.vm k = m ∧ a.place (a.vt k) ≤ u ∧ (bestV a d m u k < 0 ∨ a.place (a.vt (bestV a d m u k)) ≤ a.place (a.vt k)) then k else bestV a d m u k
def prn (a : Ab) (d m u : Int) : Int := if bestV a d m u a.moves.toNat < 0 then a.par (12 * d + m) else a.vp (bestV a d m u a.moves.toNat)
def now (a : Ab) (d m : Int) : Int := prn a d m 99
def depF (a : Ab) (d : Int) : Nat → Int → Int
  | 0, _ => 0
  | F + 1, m => if 0 < m then depF a d F (now a d m) + 1 else 0
def dep (a : Ab) (d m : Int) : Int := depF a d m.toNat m
/-- nothing from m up is hidden -/
def openF (a : Ab) (d : Int) : Nat → Int → Prop
  | 0, _ => True
  | F + 1, m => 0 < m → a.hid (12 * d + m) = 0 ∧ openF a d F (now a d m)
def opn (a : Ab) (d m : Int) : Prop := openF a d m.toNat m
def seeP (a : Ab) (d m : Int) : Prop := (a.kind (12 * d + m) = 0 → opn a d m) ∧ (a.kind (12 * d + m) = 1 → ∀ k : Int, 0 ≤ k → k < 12 → bitP (a.set (12 * d + m)) k → opn a d k)
def upw (a : Ab) (d k u : Int) : Int := if d = 0 then a.par k else prn a d k u
def wtF (a : Ab) (d top u : Int) : Nat → Int → Int
  | 0, k => if k = top then 1 else 2
  | F + 1, k => if k = top then 1 else if k < top then 2 else if wtF a d top u F (upw a d k u) = 2 then 2 else wtF a d top u F (upw a d k u) * a.sign (12 * d + k)
def wt (a : Ab) (d m top u : Int) : Int := wtF a d top u m.toNat m
/-- the weight below a bridge: by its first member that it is below -/
def wbF (a : Ab) (d m top u : Int) : Nat → Int
  | 0 => 2
  | k + 1 => if wbF a d m top u k ≠ 2 then wbF a d m top u k else if bitP (a.set (12 * d + top)) k then wt a d m k u else 2
def wgt (a : Ab) (d m top u : Int) : Int := if a.kind (12 * d + top) = 0 then wt a d m top u else if a.kind (12 * d + top) = 1 then wbF a d m top u 12 else 2
def until_ (a : Ab) (p : Int) : Int := if a.asNow = 0 then a.place p else 99
noncomputable def cnt (a : Ab) (pt px py t x y : Int) : Int := @ite _ (wgt a 0 pt t (until_ a pt) = 2 ∨ wgt a 1 px x (until_ a pt) = 2 ∨ wgt a 2 py y (until_ a pt) = 2 ∨ (a.leave ≠ 0 ∧ ¬ (seeP a 0 pt ∧ seeP a 1 px ∧ seeP a 2 py))) (Classical.propDecidable _) 0 (wgt a 0 pt t (until_ a pt) * wgt a 1 px x (until_ a pt) * wgt a 2 py y (until_ a pt))
/-- what fact f counts for measure m in the cell -/
noncomputable def cnf (a : Ab) (m t x y : Int) (f : Int) : Int := if a.fm f = m then cnt a (a.ft f) (a.fa f) (a.fb f) t x y else 0
noncomputable def sumF (c v : Int → Int) : Nat → Int
  | 0 => 0
  | k + 1 => sumF c v k + c k * v k
noncomputable def lastF (c pl : Int → Int) : Nat → Int
  | 0 => -1
  | k + 1 => if c k ≠ 0 ∧ lastF c pl k < pl k then pl k else lastF c pl k
noncomputable def diffF (c v : Int → Int) : Nat → Int
  | 0 => 0
  | k + 1 => @ite _ (c k ≠ 0 ∧ ∀ g : Nat, g < k → c g ≠ 0 → v g ≠ v k) (Classical.propDecidable _) (diffF c v k + 1) (diffF c v k)
noncomputable def plnV (a : Ab) (m t x y : Int) : Int :=
  if lastF (cnf a m t x y) (fun f => a.place (a.ft f)) a.facts.toNat < 0 then zNO
  else if a.mk m = 2 then diffF (cnf a m t x y) a.fv a.facts.toNat
  else if a.mk m = 1 then sumF (fun f => if a.place (a.ft f) = lastF (cnf a m t x y) (fun f => a.place (a.ft f)) a.facts.toNat then cnf a m t x y f else 0) a.fv a.facts.toNat
  else sumF (cnf a m t x y) a.fv a.facts.toNat
def rat (x y : Int) : Int := if x = zNO ∨ y = zNO ∨ y = 0 then zNO else bnd ((1000 * x).tdiv y)
def pls (x y s : Int) : Int := if x = zNO ∧ y = zNO then zNO else bnd ((if x = zNO then 0 else x) + (if y = zNO then 0 else s * y))
def prd (x y : Int) : Int := if x = zNO ∨ y = zNO then zNO else bnd (x * y)
def jnd (w x y : Int) : Int := if w = 3 then pls x y 1 else if w = 4 then pls x y (-1) else if w = 5 then prd x y else rat x y
/-- the value of a measure without calculated members, whatever it means -/
noncomputable def whoF (a : Ab) (t x y : Int) : Nat → Int → Int
  | 0, _ => zNO
  | F + 1, m => if a.mk m = 3 then rat (whoF a t x y F (a.ma m)) (whoF a t x y F (a.mb m)) else plnV a m t x y
noncomputable def who (a : Ab) (m t x y : Int) : Int := whoF a t x y (m.toNat + 1) m
def nth (a : Ab) (m t x y : Int) : Prop := (isP a 0 t ∧ dep a 0 t < a.md (3 * m)) ∨ (isP a 1 x ∧ dep a 1 x < a.md (3 * m + 1)) ∨ (isP a 2 y ∧ dep a 2 y < a.md (3 * m + 2))
/-- the order of a calculated member, -1 of another -/
def ord (a : Ab) (d m : Int) : Int := if a.kind (12 * d + m) = 2 then a.order (12 * d + m) else -1
def lead (a : Ab) (t x y : Int) : Int :=
  if ord a 2 y ≠ -1 ∧ ord a 0 t ≤ ord a 2 y ∧ ord a 1 x ≤ ord a 2 y then 2
  else if ord a 1 x ≠ -1 ∧ ord a 0 t ≤ ord a 1 x then 1
  else if ord a 0 t ≠ -1 then 0 else -1
/-- of the same depth as t, the one that stands last ahead of b -/
def prvF (a : Ab) (t b : Int) : Nat → Int
  | 0 => -1
  | k + 1 => if isP a 0 k ∧ dep a 0 k = dep a 0 t ∧ a.place k < a.place b ∧ (prvF a t b k < 0 ∨ a.place (prvF a t b k) < a.place k) then k else prvF a t b k
def prv (a : Ab) (t b : Int) : Int := prvF a t b (a.many 0).toNat
def bckF (a : Ab) (t : Int) : Nat → Int → Int
  | 0, b => b
  | s + 1, b => if b < 0 then b else bckF a t s (prv a t b)
def bck (a : Ab) (t s : Int) : Int := bckF a t s.toNat t
def withD (d z t x y : Int) : Int × Int × Int := (if d = 0 then z else t, if d = 1 then z else x, if d = 2 then z else y)
def lokV (v : Int → Int → Int → Int) (a : Ab) (d z s t x y : Int) : Int :=
  if s = 0 then v (withD d z t x y).1 (withD d z t x y).2.1 (withD d z t x y).2.2
  else if isP a 0 (withD d z t x y).1 ∧ 0 ≤ bck a (withD d z t x y).1 s then v (bck a (withD d z t x y).1 s) (withD d z t x y).2.1 (withD d z t x y).2.2 else zNO
def datF (v : Int → Int) (a : Ab) (t : Int) : Nat → Int
  | 0 => zNO
  | k + 1 => if isP a 0 k ∧ ((k : Int) = t ∨ (0 < t ∧ 0 < k ∧ a.par k = a.par t)) then pls (datF v a t k) (v k) 1 else datF v a t k
def datV (v : Int → Int → Int → Int) (a : Ab) (d z t x y : Int) : Int :=
  if isP a 0 (withD d z t x y).1 then datF (fun k => v k (withD d z t x y).2.1 (withD d z t x y).2.2) a (withD d z t x y).1 ((withD d z t x y).1.toNat + 1) else zNO
def wrdV (v : Int → Int → Int → Int) (a : Ab) (d t x y k : Int) (st : List Int) : List Int :=
  if a.what k = 0 then a.one k :: st
  else if a.what k = 1 then lokV v a d (a.one k) (a.two k) t x y :: st
  else if a.what k = 2 then datV v a d (a.one k) t x y :: st
  else match st with
    | q :: p :: r => jnd (a.what k) p q :: r
    | st => st
def frmF (v : Int → Int → Int → Int) (a : Ab) (d t x y own : Int) : Nat → List Int
  | 0 => []
  | k + 1 => wrdV v a d t x y (10 * own + k) (frmF v a d t x y own k)
def frm (v : Int → Int → Int → Int) (a : Ab) (d t x y : Int) : Int := (frmF v a d t x y (12 * d + (if d = 0 then t else if d = 1 then x else y)) (a.len (12 * d + (if d = 0 then t else if d = 1 then x else y))).toNat).headD zNO
noncomputable def valF (a : Ab) (m : Int) : Nat → Int → Int → Int → Int
  | 0, _, _, _ => zNO
  | F + 1, t, x, y => if 0 ≤ lead a t x y then frm (valF a m F) a (lead a t x y) t x y
    else @ite _ (nth a m t x y) (Classical.propDecidable _) zNO (who a m t x y)
noncomputable def val (a : Ab) (m t x y : Int) : Int := valF a m 36 t x y
