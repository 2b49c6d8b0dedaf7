/-! ===== what the class holds of it ===== -/
/-- how many of the first k moves are of dimension d -/
def nmv (a : Ab) (d : Int) : Nat → Int
  | 0 => 0
  | k + 1 => if a.vd k = d then nmv a d k + 1 else nmv a d k
def inD (d : Int) : Prop := d = 0 ∨ d = 1 ∨ d = 2
/-- dimension d at p: what was told (0..7, 14), what follows (8..13) -/
def icd (σ : Hp) (a : Ab) (p : Nat) (d : Int) : Nat → Prop
  | 0 => σ p 0 = a.many d
  | 1 => σ p 1 = a.chos d
  | 2 => σ p 2 = a.picks d ∧ ∀ i : Int, 0 ≤ i → i < a.picks d → σ (p + 12) i = a.pick (12 * d + i)
  | 3 => ∀ m : Int, thr a d m → σ (p + 5) m = a.kind (12 * d + m)
  | 4 => ∀ m : Int, thr a d m → isP a d m → 0 < m → σ (p + 6) m = a.par (12 * d + m) ∧ σ (p + 7) m = a.sign (12 * d + m)
  | 5 => ∀ m : Int, thr a d m → a.kind (12 * d + m) = 1 → σ (p + 8) m = a.set (12 * d + m)
  | 6 => ∀ m : Int, thr a d m → a.kind (12 * d + m) = 2 → σ (p + 9) m = a.order (12 * d + m)
  | 7 => ∀ m : Int, 0 ≤ m → m < 12 → σ (p + 10) m = a.hid (12 * d + m)
  | 8 => ∀ m : Int, thr a d m → isP a d m → σ (p + 13) m = if m = 0 then -1 else now a d m
  | 9 => ∀ m : Int, thr a d m → isP a d m → σ (p + 14) m = dep a d m
  | 10 => ∀ m : Int, thr a d m → σ (p + 15) m = bI (seeP a d m)
  | 11 => ∀ m o : Int, thr a d m → thr a d o → isP a d m → a.kind (12 * d + o) ≠ 2 → σ (p + 29) (12 * m + o) = wgt a d m o 99
  | 12 => ∀ t : Int, thr a 0 t → isP a 0 t → ∀ m o : Int, thr a d m → thr a d o → isP a d m → a.kind (12 * d + o) ≠ 2 → σ (p + 17 + t.toNat) (12 * m + o) = wgt a d m o (a.place t)
  | 13 => σ (p + 1) 0 = nmv a d a.moves.toNat ∧ ∀ k : Nat, (k : Int) < a.moves → a.vd k = d → σ (p + 2) (nmv a d k) = a.vm k ∧ σ (p + 3) (nmv a d k) = a.vp k ∧ σ (p + 4) (nmv a d k) = a.vt k
  | _ => True
def ICD (σ : Hp) (a : Ab) (p : Nat) (d : Int) : Prop := ∀ k, icd σ a p d k
/-- the lowest child of a member of time from a number on, -1: none -/
def aftF (a : Ab) (q f : Int) : Nat → Int
  | 0 => -1
  | k + 1 => if aftF a q f k = -1 ∧ f ≤ k ∧ 0 < (k : Int) ∧ isP a 0 k ∧ a.par k = q then k else aftF a q f k
def aft (a : Ab) (q f : Int) : Int := aftF a q f (a.many 0).toNat
/-- the next one that is not below k -/
def clbF (a : Ab) : Nat → Int → Int
  | 0, _ => -1
  | F + 1, k => if k ≤ 0 then -1 else if 0 ≤ aft a (a.par k) (k + 1) then aft a (a.par k) (k + 1) else clbF a F (a.par k)
def clb (a : Ab) (k : Int) : Int := clbF a k.toNat k
def nxt (a : Ab) (k : Int) : Int := if 0 ≤ aft a k 0 then aft a k 0 else clb a k
/-- members of time as they stand -/
def chn (a : Ab) (row : Int → Int) (c : Int) : Nat → Prop
  | 0 => 0 < c ∧ c ≤ 12
  | 1 => row 0 = 0
  | 2 => ∀ i : Int, 0 ≤ i → i < c → thr a 0 (row i) ∧ isP a 0 (row i)
  | 3 => ∀ i : Int, 0 ≤ i → i + 1 < c → nxt a (row i) = row (i + 1)
  | 4 => nxt a (row (c - 1)) = -1
  | 5 => ∀ m : Int, thr a 0 m → isP a 0 m → ∃ i : Int, 0 ≤ i ∧ i < c ∧ row i = m
  | 6 => ∀ i j : Int, 0 ≤ i → i < c → 0 ≤ j → j < c → row i = row j → i = j
  | 7 => c ≤ a.many 0
  | _ => True
def Chn (a : Ab) (row : Int → Int) (c : Int) : Prop := ∀ k, chn a row c k
/-- the reference's own bounds -/
def wfa (a : Ab) : Nat → Prop
  | 0 => ∀ d : Int, inD d → 1 ≤ a.many d ∧ a.many d ≤ 12
  | 1 => ∀ d : Int, inD d → a.kind (12 * d) = 0 ∧ a.hid (12 * d) = 0 ∧ a.par (12 * d) = -1
  | 2 => ∀ d m : Int, inD d → thr a d m → a.kind (12 * d + m) = 0 ∨ a.kind (12 * d + m) = 1 ∨ a.kind (12 * d + m) = 2
  | 3 => ∀ d m : Int, inD d → thr a d m → isP a d m → 0 < m → 0 ≤ a.par (12 * d + m) ∧ a.par (12 * d + m) < m ∧ isP a d (a.par (12 * d + m)) ∧ -1 ≤ a.sign (12 * d + m) ∧ a.sign (12 * d + m) ≤ 1
  | 4 => ∀ d m : Int, inD d → thr a d m → a.kind (12 * d + m) = 1 → 1 ≤ a.set (12 * d + m) ∧ a.set (12 * d + m) ≤ 4095 ∧ ∀ k : Int, 0 ≤ k → k < 12 → bitP (a.set (12 * d + m)) k → k < m ∧ isP a d k
  | 5 => ∀ d m : Int, inD d → thr a d m → a.kind (12 * d + m) = 2 → 0 ≤ a.order (12 * d + m) ∧ a.order (12 * d + m) ≤ 100
  | 6 => ∀ d m : Int, inD d → 0 ≤ m → m < 12 → (a.hid (12 * d + m) = 0 ∨ a.hid (12 * d + m) = 1) ∧ (¬ (thr a d m ∧ isP a d m) → a.hid (12 * d + m) = 0) ∧ (a.many d ≤ m → a.kind (12 * d + m) = 0)
  | 7 => 0 ≤ a.moves ∧ a.moves ≤ 10 ∧ ∀ k : Int, 0 ≤ k → k < a.moves → (a.vd k = 1 ∨ a.vd k = 2) ∧ thr a (a.vd k) (a.vm k) ∧ isP a (a.vd k) (a.vm k) ∧ 0 ≤ a.vp k ∧ a.vp k < a.vm k ∧ isP a (a.vd k) (a.vp k) ∧ thr a 0 (a.vt k) ∧ isP a 0 (a.vt k)
  | 8 => (a.asNow = 0 ∨ a.asNow = 1) ∧ (a.leave = 0 ∨ a.leave = 1)
  | 9 => ∃ row c, Chn a row c ∧ ∀ i : Int, 0 ≤ i → i < c → a.place (row i) = i
  | 10 => 0 ≤ a.measures ∧ a.measures ≤ 4 ∧ ∀ m : Int, 0 ≤ m → m < a.measures → 0 ≤ a.mk m ∧ a.mk m ≤ 3 ∧ (a.mk m = 3 → 0 ≤ a.ma m ∧ a.ma m < m ∧ 0 ≤ a.mb m ∧ a.mb m < m)
  | 11 => ∀ i : Int, 0 ≤ i → i < 12 → 0 ≤ a.md i ∧ a.md i ≤ 11
  | 12 => 0 ≤ a.facts ∧ a.facts ≤ 50 ∧ ∀ f : Int, 0 ≤ f → f < a.facts → thr a 0 (a.ft f) ∧ isP a 0 (a.ft f) ∧ thr a 1 (a.fa f) ∧ isP a 1 (a.fa f) ∧ thr a 2 (a.fb f) ∧ isP a 2 (a.fb f) ∧ 0 ≤ a.fm f ∧ a.fm f < a.measures ∧ a.mk (a.fm f) ≠ 3 ∧ -1000000 ≤ a.fv f ∧ a.fv f ≤ 1000000
  | 13 => -1 ≤ a.saved ∧ a.saved ≤ 50 ∧ ∀ f : Int, 0 ≤ f → f < a.saved → thr a 0 (a.st f) ∧ isP a 0 (a.st f) ∧ thr a 1 (a.sa f) ∧ isP a 1 (a.sa f) ∧ thr a 2 (a.sb f) ∧ isP a 2 (a.sb f) ∧ 0 ≤ a.sm f ∧ a.sm f < a.measures ∧ a.mk (a.sm f) ≠ 3 ∧ -1000000 ≤ a.sv f ∧ a.sv f ≤ 1000000
  | 14 => 0 ≤ a.keeps ∧ a.keeps ≤ 20 ∧ ∀ k : Int, 0 ≤ k → k < a.keeps → ∃ t x y m : Int, thr a 0 t ∧ thr a 1 x ∧ thr a 2 y ∧ 0 ≤ m ∧ m < a.measures ∧ a.kept k = 576 * t + 48 * x + 4 * y + m
  | 15 => ∀ d : Int, inD d → thr a d (a.chos d)
  | 16 => ∀ d : Int, inD d → 0 ≤ a.picks d ∧ a.picks d ≤ 12 ∧ ∀ i : Int, 0 ≤ i → i < a.picks d → thr a d (a.pick (12 * d + i)) ∧ isP a d (a.pick (12 * d + i))
  | 17 => 0 ≤ a.len 36 ∧ a.len 36 ≤ 10
  | 18 => ∀ f g : Int, 0 ≤ f → f < a.facts → 0 ≤ g → g < a.facts → a.ft f = a.ft g → a.fa f = a.fa g → a.fb f = a.fb g → a.fm f = a.fm g → f = g
  | 19 => ∀ f g : Int, 0 ≤ f → f < a.saved → 0 ≤ g → g < a.saved → a.st f = a.st g → a.sa f = a.sa g → a.sb f = a.sb g → a.sm f = a.sm g → f = g
  | _ => True
def WFA (a : Ab) : Prop := ∀ k, wfa a k
/-- the words of a formula, each with what is on the pile after it -/
def pilF (a : Ab) (s : Int) : Nat → Int
  | 0 => 0
  | k + 1 => if a.what (10 * s + k) < 3 then pilF a s k + 1 else pilF a s k - 1
/-- the words at s stand as they may: the pile never falls short, what they look at is below lim -/
def wrdOk (a : Ab) (s : Int) : Prop := 0 ≤ a.len s ∧ a.len s ≤ 10 ∧ ∀ k : Nat, (k : Int) < a.len s → 0 ≤ a.what (10 * s + k) ∧ a.what (10 * s + k) ≤ 6 ∧ (3 ≤ a.what (10 * s + k) → 2 ≤ pilF a s k) ∧ (a.what (10 * s + k) = 0 → -1000000 ≤ a.one (10 * s + k) ∧ a.one (10 * s + k) ≤ 1000000) ∧ (a.what (10 * s + k) = 1 ∨ a.what (10 * s + k) = 2 → 0 ≤ a.one (10 * s + k) ∧ a.one (10 * s + k) ≤ 11) ∧ (a.what (10 * s + k) = 1 → 0 ≤ a.two (10 * s + k) ∧ a.two (10 * s + k) ≤ 11)
def wfw (a : Ab) : Nat → Prop
  | 0 => wrdOk a 36
  | 1 => ∀ d m : Int, inD d → thr a d m → a.kind (12 * d + m) = 2 → 0 < m ∧ wrdOk a (12 * d + m) ∧ pilF a (12 * d + m) (a.len (12 * d + m)).toNat = 1 ∧ ∀ k : Int, 0 ≤ k → k < a.len (12 * d + m) → a.what (10 * (12 * d + m) + k) = 1 ∨ a.what (10 * (12 * d + m) + k) = 2 → a.one (10 * (12 * d + m) + k) < m
  | _ => True
def WFW (a : Ab) : Prop := ∀ k, wfw a k
def ict (σ : Hp) (a : Ab) : Nat → Prop
  | 0 => Chn a (σ 93) (σ 92 0) ∧ ∀ i : Int, 0 ≤ i → i < σ 92 0 → a.place (σ 93 i) = i
  | 1 => ∀ m : Int, 0 ≤ m → m < 12 → σ 94 m = @ite _ (thr a 0 m ∧ isP a 0 m) (Classical.propDecidable _) (a.place m) (-1)
  | _ => True
def ICT (σ : Hp) (a : Ab) : Prop := ∀ k, ict σ a k
/-- measure m needs measure o -/
def ndsF (a : Ab) (o : Int) : Nat → Int → Prop
  | 0, _ => False
  | F + 1, m => m = o ∨ (a.mk m = 3 ∧ (ndsF a o F (a.ma m) ∨ ndsF a o F (a.mb m)))
def nds (a : Ab) (m o : Int) : Prop := ndsF a o (m.toNat + 1) m
def icm (σ : Hp) (a : Ab) : Nat → Prop
  | 0 => σ 95 0 = a.measures
  | 1 => ∀ m : Int, 0 ≤ m → m < a.measures → σ 96 m = a.mk m ∧ (a.mk m = 3 → σ 97 m = a.ma m ∧ σ 98 m = a.mb m)
  | 2 => ∀ m : Int, 0 ≤ m → m < a.measures → 0 ≤ σ 99 m ∧ σ 99 m < 16 ∧ ∀ o : Int, 0 ≤ o → o < 4 → (bitP (σ 99 m) o ↔ nds a m o)
  | 3 => ∀ i : Int, 0 ≤ i → i < 12 → σ 100 i = a.md i
  | _ => True
def ICM (σ : Hp) (a : Ab) : Prop := ∀ k, icm σ a k
def icf (σ : Hp) (a : Ab) : Nat → Prop
  | 0 => σ 101 0 = a.facts ∧ ∀ f : Int, 0 ≤ f → f < a.facts → σ 102 f = 144 * a.ft f + 12 * a.fa f + a.fb f ∧ σ 103 f = a.fm f ∧ σ 104 f = a.fv f
  | 1 => σ 101 2 = bI (0 ≤ a.saved)
  | 2 => 0 ≤ a.saved → σ 101 1 = a.saved ∧ ∀ f : Int, 0 ≤ f → f < a.saved → σ 105 f = 144 * a.st f + 12 * a.sa f + a.sb f ∧ σ 106 f = a.sm f ∧ σ 107 f = a.sv f
  | _ => True
def ICF (σ : Hp) (a : Ab) : Prop := ∀ k, icf σ a k
def ick (σ : Hp) (a : Ab) : Nat → Prop
  | 0 => σ 108 0 = a.keeps ∧ σ 108 1 = a.hits
  | 1 => ∀ k : Int, 0 ≤ k → k < a.keeps → ∀ t x y m : Int, thr a 0 t → thr a 1 x → thr a 2 y → 0 ≤ m → m < a.measures → a.kept k = 576 * t + 48 * x + 4 * y + m → σ 109 k = 144 * t + 12 * x + y ∧ σ 110 k = m ∧ σ 111 k = val a m t x y
  | _ => True
def ICK (σ : Hp) (a : Ab) : Prop := ∀ k, ick σ a k
/-- a Formula at P holds the words at s -/
def fHd (σ : Hp) (a : Ab) (P : Nat) (s : Int) : Prop := σ P 0 = a.len s ∧ ∀ k : Int, 0 ≤ k → k < a.len s → σ (P + 1) k = a.what (10 * s + k) ∧ σ (P + 2) k = a.one (10 * s + k) ∧ σ (P + 3) k = a.two (10 * s + k)
def fPt (n : Nat) (x : Int) : Prop := x = 125 ∨ (171 ≤ x ∧ x + 3 < n ∧ (x - 171) % 4 = 0 ∧ x + 3 < 1048576)
def dP (d : Int) : Nat := if d = 0 then 2 else if d = 1 then 32 else 62
def icw (σ : Hp) (a : Ab) (n : Nat) : Nat → Prop
  | 0 => fPt n (σ 0 6) ∧ fHd σ a (σ 0 6).toNat 36 ∧ σ (σ 0 6).toNat 1 = pilF a 36 (a.len 36).toNat
  | 1 => ∀ d m : Int, inD d → thr a d m → a.kind (12 * d + m) = 2 → fPt n (σ (dP d + 11) m) ∧ σ (dP d + 11) m ≠ σ 0 6 ∧ fHd σ a (σ (dP d + 11) m).toNat (12 * d + m)
  | 2 => ∃ j : Nat, n = 171 + 4 * j
  | _ => True
def ICW (σ : Hp) (a : Ab) (n : Nat) : Prop := ∀ k, icw σ a n k
/-- all of it; B bounds the stamps -/
def ica (σ : Hp) (a : Ab) (n : Nat) (B : Int) : Nat → Prop
  | 0 => ICD σ a 2 0
  | 1 => ICD σ a 32 1
  | 2 => ICD σ a 62 2
  | 3 => ICT σ a
  | 4 => σ 1 4 = a.asNow ∧ σ 1 5 = a.leave
  | 5 => ICM σ a
  | 6 => ICF σ a
  | 7 => ICK σ a
  | 8 => ICW σ a n
  | 9 => 0 ≤ σ 116 4 ∧ σ 116 4 ≤ B ∧ ∀ c : Int, 0 ≤ c → c < 1728 → σ 117 c ≤ σ 116 4
  | _ => True
def IC (σ : Hp) (a : Ab) (n : Nat) (B : Int) : Prop := ∀ k, ica σ a n B k
/-- the reference's memo -/
def icv (σ : Hp) (a : Ab) (B : Int) : Nat → Prop
  | 0 => 1 ≤ σ 129 38 ∧ σ 129 38 ≤ B ∧ ∀ c : Int, 0 ≤ c → c < 13824 → σ 161 c ≤ σ 129 38
  | 1 => ∀ t x y m : Int, thr a 0 t → thr a 1 x → thr a 2 y → 0 ≤ m → m < a.measures → (σ 161 (576 * t + 48 * x + 4 * y + m) = σ 129 38 → σ 160 (576 * t + 48 * x + 4 * y + m) = val a m t x y) ∧ (σ 161 (6912 + 576 * t + 48 * x + 4 * y + m) = σ 129 38 → lead a t x y = -1 ∧ σ 160 (6912 + 576 * t + 48 * x + 4 * y + m) = who a m t x y)
  | 2 => σ 129 46 = 0
  | _ => True
def ICV (σ : Hp) (a : Ab) (B : Int) : Prop := ∀ k, icv σ a B k
