/-! ===== the numbers' machine: what an instruction does to a world of Ints ===== -/
abbrev PV : Type := Nat × Nat × Int
def pvI (x : Int) : PV := (0, 0, x)
def pvL (x : Int) : PV := (1, 0, x)
/-- a Formula, or null: -1 -/
def pvF (x : Int) : PV := (2, 0, x)
/-- the law's script -/
def pvS : PV := (3, 0, 0)
/-- the cell P, of kind k and length L -/
def pvR (k L P : Nat) : PV := (k + 10, L, (P : Int))
abbrev Lc : Type := List (Option PV)
/-- whether all is made; how many cells, how many exceptions there were; what the cells hold -/
abbrev Wd : Type := Bool × Nat × Nat × Hp
/-- 0: it returned, else what it threw; the answer; the world -/
abbrev Out : Type := Nat × Option PV × Wd
def le (w w' : Wd) : Prop := nle w.2.1 w'.2.1 ∧ w.2.2.1 ≤ w'.2.2.1
theorem le.refl (w : Wd) : le w w := ⟨nle.refl _, Nat.le_refl _⟩
theorem le.trans {a b c : Wd} (h : le a b) (h2 : le b c) : le a c := ⟨h.1.trans h2.1, Nat.le_trans h.2 h2.2⟩
def catV (v : PV) : Nat := if v.1 = 1 then 2 else 1
def catS (st : List PV) : Nat := (st.map catV).sum
def clr (L : Lc) (i : Nat) : Lc := match i with
  | 0 => L
  | j + 1 => match L[j]? with
    | some (some (1, _, _)) => L.set j none
    | _ => L
def sto1 (L : Lc) (i : Nat) (v : PV) : Lc := (clr L i).set i (some v)
def sto2 (L : Lc) (i : Nat) (v : PV) : Lc := ((clr L i).set i (some v)).set (i + 1) none
def ent (n : Nat) (as : List PV) : Lc :=
  let l : Lc := as.flatMap fun v => if v.1 = 1 then [some v, none] else [some v]
  l ++ List.replicate (n - l.length) none
def nos (as : List PV) : Bool := as.all fun v => v.1 != 3
abbrev mC (M : Mt) : Nat := M.1
abbrev mY (M : Mt) : MethodName := M.2.1
abbrev mB (M : Mt) : ByteArray := M.2.2.1
abbrev mL (M : Mt) : Nat := M.2.2.2.1
abbrev mR (M : Mt) : Option FieldType := M.2.2.2.2.1
abbrev mA (M : Mt) : Nat := M.2.2.2.2.2.1
abbrev mH (M : Mt) : List (Nat × Nat × Nat × Nat) := M.2.2.2.2.2.2
def rFld (c i : Nat) : Option (Nat × Nat) := (rFldL.find? fun q => q.1 == c && q.2.1 == i).map fun q => q.2.2
def rMth (c i : Nat) : Option (Nat × Nat) := (rMthL.find? fun q => q.1 == c && q.2.1 == i).map fun q => q.2.2
def rCst (c i : Nat) : Option (Nat × Int) := (rCstL.find? fun q => q.1 == c && q.2.1 == i).map fun q => q.2.2
def rThr (c i : Nat) : Option Nat := (rThrL.find? fun q => q.1 == c && q.2.1 == i).map fun q => q.2.2
def rNew (c i : Nat) : Option Nat := (rNewL.find? fun q => q.1 == c && q.2.1 == i).map fun q => q.2.2
/-- where an exception x at pc is caught -/
def hdl (c pc x : Nat) : List (Nat × Nat × Nat × Nat) → Option Nat
  | [] => none
  | (a, b, h, t) :: r => if a ≤ pc ∧ pc < b then (match rThr c t with
    | some x' => if x' = x then some h else if x' < x then hdl c pc x r else none
    | none => none) else hdl c pc x r
def lcm (x y : Int) : Int := if x < y then -1 else if x = y then 0 else 1
def iushr (x y : Int) : Int := (((Int32.ofInt x).toUInt32 >>> ((Int32.ofInt y).toUInt32 &&& Int32.toUInt32 31)).toInt32).toInt
def cnd (o : Jvm.ClassFile.Cond) (x y : Int) : Prop := match o with
  | .eq => x = y
  | .ne => x ≠ y
  | .lt => x < y
  | .ge => y ≤ x
  | .gt => y < x
  | .le => x ≤ y
def rcv (v : PV) (k P : Nat) : Prop := v = pvR k 0 P ∨ (k = 2 ∧ v = pvF (P : Int))
/-- the value that a field gives -/
def fvG (md : Bool) (σ : Hp) (k j P : Nat) (v : PV) : Prop := match (zFld k)[j]? with
  | some (0, _) => v = pvI (σ P j)
  | some (1, _) => v = pvL (σ P j)
  | some (2, _) => v = pvI (σ P j)
  | some (3, _) => v = pvF (σ P j)
  | some (_, o) => ∃ k' L' P' : Nat, (zTgt k)[j]? = some (k', L') ∧ (P' : Int) = P + o ∧ v = pvR k' L' P' ∧ (md = true ∨ σ P j = P')
  | none => False
/-- the value that a field takes, as a number -/
def fvP (md : Bool) (k j P : Nat) (v : PV) (x : Int) : Prop := match (zFld k)[j]? with
  | some (0, _) => v = pvI x
  | some (1, _) => v = pvL x
  | some (2, _) => v = pvI x ∧ 0 ≤ x ∧ x ≤ 1
  | some (3, _) => (v = pvF x ∧ 0 ≤ x) ∨ ∃ P' : Nat, v = pvR 2 0 P' ∧ x = P'
  | some (_, o) => md = false ∧ ∃ k' L' P' : Nat, (zTgt k)[j]? = some (k', L') ∧ (P' : Int) = P + o ∧ v = pvR k' L' P' ∧ x = P'
  | none => False
/-- a new cell: its fields before they are set -/
def zNew (σ : Hp) (n : Nat) : Hp := fun q j => if q = n then (if sh n < 12 then (match (zFld (sh n))[j.toNat]? with
  | some (3, _) => -1
  | some (4, _) => -1
  | _ => 0) else if sh n = 15 then -1 else 0) else σ q j
/-- a new Formula, made whole -/
def zFormula (σ : Hp) (n : Nat) : Hp := fun q j => if q = n then (if j = 2 then n + 1 else if j = 3 then n + 2 else if j = 4 then n + 3 else 0) else if n < q ∧ q < n + 4 then 0 else σ q j
/-- new int[60] of the law's -/
def zTmp (σ : Hp) (P : Nat) : Hp := fun q j => if q = P then 0 else σ q j
/-- what the law reads of its script -/
def scrV (q : Nat × (Nat → Int32)) (k : Int) : Int := if k < (q.1 : Int) then (q.2 k.toNat).toInt else 2752871 * k + 3301
/-- new int[13][144] -/
def zRows (σ : Hp) (n : Nat) : Hp := fun q j => if q = n then n + 1 + j else if n < q ∧ q < n + 14 then 0 else σ q j
def zCpy (σ : Hp) (P Q : Nat) (sp dp n : Int) : Hp := fun q j => if q = Q ∧ dp ≤ j ∧ j < dp + n then σ P (sp + (j - dp)) else σ q j
def arrK (a : ArrayType) : Option Nat := match a with
  | .int => some 12
  | .long => some 13
  | .boolean => some 14
  | _ => none
def full (w : Wd) : Prop := w.2.1 = 130 ∧ ∀ p, p < 130 → ∀ (j : Nat) (o : Int), (zFld (sh p))[j]? = some (4, o) → w.2.2.2 p j = p + o
abbrev Xs : Type := Option (Nat × (Nat → Int32))
abbrev Er : Type := Nat → List PV → Wd → Out → Prop
abbrev Kr : Type := Nat → Lc → List PV → Wd → Prop
/-- calls of the library that are one step -/
def natP (kind : Nat) (K : List PV → Wd → Prop) (st : List PV) (w : Wd) : Prop := match kind with
  | 10 => ∃ x y r, st = pvI y :: pvI x :: r ∧ catS r ≤ 20 ∧ K (pvI (max x y) :: r) w
  | 11 => ∃ x y r, st = pvI y :: pvI x :: r ∧ catS r ≤ 20 ∧ K (pvI (min x y) :: r) w
  | 12 => ∃ x y r, st = pvL y :: pvL x :: r ∧ catS r ≤ 20 ∧ K (pvL (max x y) :: r) w
  | 13 => ∃ x y r, st = pvL y :: pvL x :: r ∧ catS r ≤ 20 ∧ K (pvL (min x y) :: r) w
  | 14 => ∃ x r, st = pvL x :: r ∧ catS r ≤ 20 ∧ r64 (-x) ∧ K (pvL (max x (-x)) :: r) w
  | 15 => ∃ (n dp sp : Int) (L1 P1 L0 P0 : Nat) (r : List PV), st = pvI n :: pvI dp :: pvR 12 L1 P1 :: pvI sp :: pvR 12 L0 P0 :: r ∧ catS r ≤ 20 ∧ 0 ≤ sp ∧ 0 ≤ dp ∧ 0 ≤ n ∧ sp + n ≤ L0 ∧ dp + n ≤ L1 ∧ K r (w.1, w.2.1, w.2.2.1, zCpy w.2.2.2 P0 P1 sp dp n)
  | 16 => ∃ (k L P : Nat) (r : List PV), st = pvR k L P :: r ∧ catS r ≤ 20 ∧ K r w
  | _ => False
/-- a call, by the pool's entry idx; kinds of call as in rMthL -/
def callP (E : Er) (M : Mt) (idx : Nat) (ks : List Nat) (K : Kr) (fin : Out → Prop) (pc : Nat) (L : Lc) (st : List PV) (w : Wd) : Prop :=
  ∃ kind kc, rMth (mC M) idx = some (kind, kc) ∧ kind ∈ ks ∧ ((10 ≤ kind ∧ natP kind (fun st' w' => K (pc + 3) L st' w') st w) ∨
    (kind < 6 ∧ ∃ (Mc : Mt) (as r : List PV) (o : Out), mtab[kc]? = some Mc ∧ st = as.reverse ++ r ∧ as.length = mA Mc ∧ nos as = true ∧ catS r ≤ 8 ∧ (kind ∈ [1, 4] ∨ ∃ (a : PV) (as' : List PV) (P : Nat), as = a :: as' ∧ rcv a (mC Mc) P) ∧ E kc as w o ∧ le w o.2.2 ∧
      ((o.1 = 0 ∧ K (pc + 3) L (o.2.1.toList ++ r) o.2.2) ∨ (o.1 ≠ 0 ∧ o.1 ≤ 3 ∧ kind < 2 ∧ ((hdl (mC M) pc o.1 (mH M) = none ∧ mH M = [] ∧ fin (o.1, none, o.2.2)) ∨ ∃ h i ln, hdl (mC M) pc o.1 (mH M) = some h ∧ (decode (mB M) h = .ok (.astore i, ln) ∧ ln = 2 ∨ ∃ q : Fin 4, decode (mB M) h = .ok (.astore_n q, ln) ∧ ln = 1 ∧ (q : Nat) = i) ∧ i < L.length ∧ K (h + ln) ((clr L i).set i none) [] o.2.2)))))
def newP (M : Mt) (idx : Nat) (K : Kr) (fin : Out → Prop) (pc : Nat) (L : Lc) (st : List PV) (w : Wd) : Prop :=
  (∃ x is ic ln, rThr (mC M) idx = some x ∧ mC M = 10 ∧ mH M = [] ∧ catS st ≤ 8 ∧ decode (mB M) (pc + 3) = .ok (.dup, 1) ∧ ((decode (mB M) (pc + 4) = .ok (.ldc is, 2) ∧ ln = 2) ∨ (decode (mB M) (pc + 4) = .ok (.ldc_w is, 3) ∧ ln = 3)) ∧ decode (mB M) (pc + 4 + ln) = .ok (.invokespecial ic, 3) ∧ decode (mB M) (pc + 7 + ln) = .ok (.athrow, 1) ∧
    ((x = 1 ∧ ic = 112) ∨ (x = 2 ∧ ic = 274) ∨ (x = 3 ∧ ic = 339)) ∧ (∃ t, ("Cubecaller", is, t) ∈ zStr) ∧ fin (x, none, w.1, w.2.1, w.2.2.1 + 1, w.2.2.2)) ∨
  (w.1 = true ∧ rNew (mC M) idx = some 2 ∧ mC M = 10 ∧ catS st ≤ 6 ∧ decode (mB M) (pc + 3) = .ok (.dup, 1) ∧ decode (mB M) (pc + 4) = .ok (.invokespecial 57, 3) ∧ w.2.1 % 1048576 + 4 < 1048576 ∧ K (pc + 7) L (pvF ((w.2.1 % 1048576 : Nat) : Int) :: st) (true, w.2.1 + 4, w.2.2.1, zFormula w.2.2.2 (w.2.1 % 1048576))) ∨
  (∃ k, w.1 = false ∧ w.2.1 < 130 ∧ rNew (mC M) idx = some k ∧ sh w.2.1 = k ∧ ln w.2.1 = 0 ∧ k < 12 ∧ K (pc + 3) L (pvR k 0 w.2.1 :: st) (false, w.2.1 + 1, w.2.2.1, zNew w.2.2.2 w.2.1))
/-- the law's own call that reads its script -/
def scrP (X : Xs) (M : Mt) (idx : Nat) (K : Kr) (pc : Nat) (L : Lc) (st : List PV) (w : Wd) : Prop :=
  ∃ (q : Nat × (Nat → Int32)) (k : Int) (r : List PV), X = some q ∧ rMth (mC M) idx = some (1, zScr) ∧ st = pvI k :: pvS :: r ∧ catS r ≤ 8 ∧ 0 ≤ k ∧ k ≤ 700 ∧ q.1 < 2147483648 ∧ K (pc + 3) L (pvI (scrV q k) :: r) w
def stepP (X : Xs) (E : Er) (M : Mt) (i : Instr) (len : Nat) (K : Kr) (fin : Out → Prop) (pc : Nat) (L : Lc) (st : List PV) (w : Wd) : Prop :=
  match i with
  | .iconst v => len = 1 ∧ r32 v ∧ K (pc + 1) L (pvI v :: st) w
  | .bipush v => len = 2 ∧ r32 v ∧ (Int8.ofInt v).toInt32 = Int32.ofInt v ∧ K (pc + 2) L (pvI v :: st) w
  | .sipush v => len = 3 ∧ r32 v ∧ (Int16.ofInt v).toInt32 = Int32.ofInt v ∧ K (pc + 3) L (pvI v :: st) w
  | .lconst v => len = 1 ∧ K (pc + 1) L (pvL ((v : Nat) : Int) :: st) w
  | .aconst_null => len = 1 ∧ K (pc + 1) L (pvF (-1) :: st) w
  | .ldc idx => ∃ v, len = 2 ∧ r32 v ∧ rCst (mC M) idx = some (0, v) ∧ K (pc + 2) L (pvI v :: st) w
  | .ldc_w idx => ∃ v, len = 3 ∧ r32 v ∧ rCst (mC M) idx = some (0, v) ∧ K (pc + 3) L (pvI v :: st) w
  | .ldc2_w idx => ∃ v, len = 3 ∧ r64 v ∧ rCst (mC M) idx = some (1, v) ∧ K (pc + 3) L (pvL v :: st) w
  | .iload_n k => ∃ x, len = 1 ∧ L[(k : Nat)]? = some (some (pvI x)) ∧ K (pc + 1) L (pvI x :: st) w
  | .iload k => ∃ x, len = 2 ∧ L[k]? = some (some (pvI x)) ∧ K (pc + 2) L (pvI x :: st) w
  | .lload_n k => ∃ x, len = 1 ∧ L[(k : Nat)]? = some (some (pvL x)) ∧ K (pc + 1) L (pvL x :: st) w
  | .lload k => ∃ x, len = 2 ∧ L[k]? = some (some (pvL x)) ∧ K (pc + 2) L (pvL x :: st) w
  | .aload_n k => ∃ v : PV, len = 1 ∧ L[(k : Nat)]? = some (some v) ∧ 2 ≤ v.1 ∧ K (pc + 1) L (v :: st) w
  | .aload k => ∃ v : PV, len = 2 ∧ L[k]? = some (some v) ∧ 2 ≤ v.1 ∧ K (pc + 2) L (v :: st) w
  | .istore_n k => ∃ x r, len = 1 ∧ st = pvI x :: r ∧ (k : Nat) < L.length ∧ K (pc + 1) (sto1 L k (pvI x)) r w
  | .istore k => ∃ x r, len = 2 ∧ st = pvI x :: r ∧ k < L.length ∧ K (pc + 2) (sto1 L k (pvI x)) r w
  | .lstore_n k => ∃ x r, len = 1 ∧ st = pvL x :: r ∧ (k : Nat) + 1 < L.length ∧ K (pc + 1) (sto2 L k (pvL x)) r w
  | .lstore k => ∃ x r, len = 2 ∧ st = pvL x :: r ∧ k + 1 < L.length ∧ K (pc + 2) (sto2 L k (pvL x)) r w
  | .astore_n k => ∃ (v : PV) (r : List PV), len = 1 ∧ st = v :: r ∧ 2 ≤ v.1 ∧ (k : Nat) < L.length ∧ K (pc + 1) (sto1 L k v) r w
  | .astore k => ∃ (v : PV) (r : List PV), len = 2 ∧ st = v :: r ∧ 2 ≤ v.1 ∧ k < L.length ∧ K (pc + 2) (sto1 L k v) r w
  | .iinc k d => ∃ x, len = 3 ∧ L[k]? = some (some (pvI x)) ∧ r32 (x + d) ∧ K (pc + 3) (sto1 L k (pvI (x + d))) st w
  | .getfield idx => ∃ k j P v0 v r, len = 3 ∧ rFld (mC M) idx = some (k, j) ∧ st = v0 :: r ∧ rcv v0 k P ∧ fvG w.1 w.2.2.2 k j P v ∧ K (pc + 3) L (v :: r) w
  | .putfield idx => ∃ k j P v0 v x r, len = 3 ∧ rFld (mC M) idx = some (k, j) ∧ st = v :: v0 :: r ∧ rcv v0 k P ∧ fvP w.1 k j P v x ∧ (((zFld k)[j]?.map Prod.fst) = some 4 → (mY M).name = "<init>" ∧ mC M = k) ∧ K (pc + 3) L r (w.1, w.2.1, w.2.2.1, hset w.2.2.2 P j x)
  | .iaload => ∃ i v r, len = 1 ∧ st = pvI i :: v :: r ∧ 0 ≤ i ∧ ((∃ L' P : Nat, v = pvR 12 L' P ∧ i < L' ∧ K (pc + 1) L (pvI (w.2.2.2 P i) :: r) w) ∨ (∃ q, X = some q ∧ v = pvS ∧ i < q.1 ∧ K (pc + 1) L (pvI (q.2 i.toNat).toInt :: r) w))
  | .laload => ∃ (i : Int) (L' P : Nat) (r : List PV), len = 1 ∧ st = pvI i :: pvR 13 L' P :: r ∧ 0 ≤ i ∧ i < L' ∧ K (pc + 1) L (pvL (w.2.2.2 P i) :: r) w
  | .baload => ∃ (i : Int) (L' P : Nat) (r : List PV), len = 1 ∧ st = pvI i :: pvR 14 L' P :: r ∧ 0 ≤ i ∧ i < L' ∧ K (pc + 1) L (pvI (w.2.2.2 P i) :: r) w
  | .aaload => ∃ (i : Int) (L' P : Nat) (r : List PV), len = 1 ∧ 0 ≤ i ∧ i < L' ∧ ((st = pvI i :: pvR 15 L' P :: r ∧ K (pc + 1) L (pvF (w.2.2.2 P i) :: r) w) ∨ (st = pvI i :: pvR 16 L' P :: r ∧ L' = 13 ∧ K (pc + 1) L (pvR 12 144 (P + 1 + i.toNat) :: r) w))
  | .iastore => ∃ (x i : Int) (L' P : Nat) (r : List PV), len = 1 ∧ st = pvI x :: pvI i :: pvR 12 L' P :: r ∧ 0 ≤ i ∧ i < L' ∧ K (pc + 1) L r (w.1, w.2.1, w.2.2.1, hset w.2.2.2 P i x)
  | .lastore => ∃ (x i : Int) (L' P : Nat) (r : List PV), len = 1 ∧ st = pvL x :: pvI i :: pvR 13 L' P :: r ∧ 0 ≤ i ∧ i < L' ∧ K (pc + 1) L r (w.1, w.2.1, w.2.2.1, hset w.2.2.2 P i x)
  | .bastore => ∃ (x i : Int) (L' P : Nat) (r : List PV), len = 1 ∧ st = pvI x :: pvI i :: pvR 14 L' P :: r ∧ 0 ≤ i ∧ i < L' ∧ 0 ≤ x ∧ x ≤ 1 ∧ K (pc + 1) L r (w.1, w.2.1, w.2.2.1, hset w.2.2.2 P i x)
  | .aastore => ∃ (x i : Int) (L' P : Nat) (r : List PV), len = 1 ∧ st = pvF x :: pvI i :: pvR 15 L' P :: r ∧ 0 ≤ i ∧ i < L' ∧ 0 ≤ x ∧ K (pc + 1) L r (w.1, w.2.1, w.2.2.1, hset w.2.2.2 P i x)
  | .arraylength => ∃ v r, len = 1 ∧ st = v :: r ∧ ((∃ L' P : Nat, v = pvR 12 L' P ∧ r32 L' ∧ K (pc + 1) L (pvI (L' : Int) :: r) w) ∨ (∃ q, X = some q ∧ v = pvS ∧ r32 (q.1 : Int) ∧ K (pc + 1) L (pvI (q.1 : Int) :: r) w))
  | .iadd => ∃ x y r, len = 1 ∧ st = pvI y :: pvI x :: r ∧ r32 (x + y) ∧ K (pc + 1) L (pvI (x + y) :: r) w
  | .isub => ∃ x y r, len = 1 ∧ st = pvI y :: pvI x :: r ∧ r32 (x - y) ∧ K (pc + 1) L (pvI (x - y) :: r) w
  | .imul => ∃ x y r, len = 1 ∧ st = pvI y :: pvI x :: r ∧ r32 (x * y) ∧ K (pc + 1) L (pvI (x * y) :: r) w
  | .idiv => ∃ x y r, len = 1 ∧ st = pvI y :: pvI x :: r ∧ 0 < y ∧ K (pc + 1) L (pvI (x.tdiv y) :: r) w
  | .irem => ∃ x y r, len = 1 ∧ st = pvI y :: pvI x :: r ∧ 0 < y ∧ K (pc + 1) L (pvI (x.tmod y) :: r) w
  | .iand => ∃ x y r, len = 1 ∧ st = pvI y :: pvI x :: r ∧ K (pc + 1) L (pvI (iand x y) :: r) w
  | .ior => ∃ x y r, len = 1 ∧ st = pvI y :: pvI x :: r ∧ K (pc + 1) L (pvI (ior x y) :: r) w
  | .ishl => ∃ x y r, len = 1 ∧ st = pvI y :: pvI x :: r ∧ K (pc + 1) L (pvI (ishl x y) :: r) w
  | .ishr => ∃ x y r, len = 1 ∧ st = pvI y :: pvI x :: r ∧ K (pc + 1) L (pvI (ishr x y) :: r) w
  | .iushr => ∃ x y r, len = 1 ∧ st = pvI y :: pvI x :: r ∧ K (pc + 1) L (pvI (iushr x y) :: r) w
  | .ladd => ∃ x y r, len = 1 ∧ st = pvL y :: pvL x :: r ∧ r64 (x + y) ∧ K (pc + 1) L (pvL (x + y) :: r) w
  | .lsub => ∃ x y r, len = 1 ∧ st = pvL y :: pvL x :: r ∧ r64 (x - y) ∧ K (pc + 1) L (pvL (x - y) :: r) w
  | .lmul => ∃ x y r, len = 1 ∧ st = pvL y :: pvL x :: r ∧ r64 (x * y) ∧ K (pc + 1) L (pvL (x * y) :: r) w
  | .ldiv => ∃ x y r, len = 1 ∧ st = pvL y :: pvL x :: r ∧ y ≠ 0 ∧ r64 (x.tdiv y) ∧ K (pc + 1) L (pvL (x.tdiv y) :: r) w
  | .lrem => ∃ x y r, len = 1 ∧ st = pvL y :: pvL x :: r ∧ 0 < y ∧ K (pc + 1) L (pvL (x.tmod y) :: r) w
  | .lneg => ∃ x r, len = 1 ∧ st = pvL x :: r ∧ r64 (-x) ∧ K (pc + 1) L (pvL (-x) :: r) w
  | .lcmp => ∃ x y r, len = 1 ∧ st = pvL y :: pvL x :: r ∧ K (pc + 1) L (pvI (lcm x y) :: r) w
  | .i2l => ∃ x r, len = 1 ∧ st = pvI x :: r ∧ K (pc + 1) L (pvL x :: r) w
  | .l2i => ∃ x r, len = 1 ∧ st = pvL x :: r ∧ r32 x ∧ K (pc + 1) L (pvI x :: r) w
  | .dup => ∃ v r, len = 1 ∧ st = v :: r ∧ v.1 ≠ 1 ∧ K (pc + 1) L (v :: v :: r) w
  | .dup2 => ∃ v u r, len = 1 ∧ st = v :: u :: r ∧ v.1 ≠ 1 ∧ u.1 ≠ 1 ∧ K (pc + 1) L (v :: u :: v :: u :: r) w
  | .pop => ∃ v r, len = 1 ∧ st = v :: r ∧ v.1 ≠ 1 ∧ K (pc + 1) L r w
  | .ifCond o off => ∃ x r t, len = 3 ∧ st = pvI x :: r ∧ (pc : Int) + off = (t : Nat) ∧ (cnd o x 0 → K t L r w) ∧ (¬ cnd o x 0 → K (pc + 3) L r w)
  | .if_icmp o off => ∃ x y r t, len = 3 ∧ st = pvI y :: pvI x :: r ∧ (pc : Int) + off = (t : Nat) ∧ (cnd o x y → K t L r w) ∧ (¬ cnd o x y → K (pc + 3) L r w)
  | .ifnonnull off => ∃ x r t, len = 3 ∧ st = pvF x :: r ∧ (pc : Int) + off = (t : Nat) ∧ (0 ≤ x → K t L r w) ∧ (¬ 0 ≤ x → K (pc + 3) L r w)
  | .goto off => ∃ t : Nat, len = 3 ∧ (pc : Int) + off = t ∧ K t L st w
  | .tableswitch dflt lo hi offs => ∃ x r off t, st = pvI x :: r ∧ (((x < lo ∨ hi < x) ∧ off = dflt) ∨ (¬ x < lo ∧ ¬ hi < x ∧ offs[(x - lo).toNat]? = some off)) ∧ (pc : Int) + off = (t : Nat) ∧ K t L r w
  | .invokevirtual idx => len = 3 ∧ callP E M idx [0, 3] K fin pc L st w
  | .invokestatic idx => len = 3 ∧ (callP E M idx [1, 4, 10, 11, 12, 13, 14, 15] K fin pc L st w ∨ scrP X M idx K pc L st w)
  | .invokespecial idx => len = 3 ∧ callP E M idx [2, 5, 16] K fin pc L st w
  | .new idx => len = 3 ∧ newP M idx K fin pc L st w
  | .newarray a => (∃ r k, len = 2 ∧ w.1 = false ∧ w.2.1 < 130 ∧ arrK a = some k ∧ sh w.2.1 = k ∧ st = pvI (ln w.2.1 : Int) :: r ∧ ln w.2.1 ≤ 20000 ∧ K (pc + 2) L (pvR k (ln w.2.1) w.2.1 :: r) (false, w.2.1 + 1, w.2.2.1, zNew w.2.2.2 w.2.1)) ∨ (∃ r, len = 2 ∧ w.1 = true ∧ a = .int ∧ st = pvI 60 :: r ∧ K (pc + 2) L (pvR 12 60 (1048576 + w.2.1 / 1048576) :: r) (true, w.2.1 + 1048576, w.2.2.1, zTmp w.2.2.2 (1048576 + w.2.1 / 1048576)))
  | .anewarray idx => ∃ r, len = 3 ∧ w.1 = false ∧ w.2.1 < 130 ∧ mC M = 0 ∧ rNew (mC M) idx = some 2 ∧ sh w.2.1 = 15 ∧ ln w.2.1 = 12 ∧ st = pvI 12 :: r ∧ K (pc + 3) L (pvR 15 12 w.2.1 :: r) (false, w.2.1 + 1, w.2.2.1, zNew w.2.2.2 w.2.1)
  | .multianewarray idx dims => ∃ r, len = 4 ∧ dims = 2 ∧ idx = 60 ∧ mC M = 0 ∧ w.1 = false ∧ w.2.1 + 14 ≤ 130 ∧ sh w.2.1 = 16 ∧ ln w.2.1 = 13 ∧ st = pvI 144 :: pvI 13 :: r ∧ (∀ i, i < 13 → sh (w.2.1 + 1 + i) = 12 ∧ ln (w.2.1 + 1 + i) = 144) ∧ K (pc + 4) L (pvR 16 13 w.2.1 :: r) (false, w.2.1 + 14, w.2.2.1, zRows w.2.2.2 w.2.1)
  | .ireturn => ∃ x, len = 1 ∧ st = [pvI x] ∧ ((mR M = some .int) ∨ (mR M = some .boolean ∧ 0 ≤ x ∧ x ≤ 1)) ∧ fin (0, some (pvI x), w)
  | .lreturn => ∃ x, len = 1 ∧ st = [pvL x] ∧ mR M = some .long ∧ fin (0, some (pvL x), w)
  | .areturn => ∃ v n, len = 1 ∧ st = [v] ∧ 2 ≤ v.1 ∧ v.1 ≠ 3 ∧ (mR M = some (.object n) ∨ mR M = some (.array .int)) ∧ fin (0, some v, w)
  | .return_ => len = 1 ∧ st = [] ∧ mR M = none ∧ fin (0, none, w)
  | _ => False
/-- fewer locals known -/
def lsub : Lc → Lc → Prop
  | [], [] => True
  | a :: as, b :: bs => (b = none ∨ b = a) ∧ lsub as bs
  | _, _ => False
def runB (X : Xs) (E : Er) (M : Mt) : Nat → Nat → Lc → List PV → Wd → Out → Prop
  | 0, _, _, _, _, _ => False
  | f + 1, pc, L, st, w, out => le w out.2.2 ∧ ((∃ i len, decode (mB M) pc = .ok (i, len) ∧ stepP X E M i len (fun pc' L' st' w' => runB X E M f pc' L' st' w' out) (fun o => out = o) pc L st w) ∨ (w.1 = false ∧ full w ∧ runB X E M f pc L st (true, 171, w.2.2) out) ∨ ∃ L0, lsub L L0 ∧ runB X E M f pc L0 st w out)
/-- calls nested at most d deep: method k at these arguments, from this world, to this end -/
def Ev : Nat → Er
  | 0 => fun _ _ _ _ => False
  | d + 1 => fun k as w out => ∃ M, mtab[k]? = some M ∧ as.length = mA M ∧ nos as = true ∧ (ent (mL M) as).length = mL M ∧ ∃ f, runB none (Ev d) M f 0 (ent (mL M) as) [] w out
def Go (X : Xs) (E : Er) (M : Mt) (pc : Nat) (L : Lc) (st : List PV) (w : Wd) (out : Out) : Prop := ∃ f, runB X E M f pc L st w out
