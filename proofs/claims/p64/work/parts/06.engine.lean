/-! THE ENGINE: a symbolic executor over G. Numbers are linear forms over symbols; a symbol has an interval. Symbols below sM are what the memory held at the method's start, then come its arguments, then made ones. -/
/-- a linear form: constant, terms (symbol, factor) by rising symbols -/
abbrev sL : Type := Int × List (Nat × Int)
def sev (r : Nat → Int) : List (Nat × Int) → Int
  | [] => 0
  | q :: t => q.2 * r q.1 + sev r t
def sEv (r : Nat → Int) (l : sL) : Int := l.1 + sev r l.2
def sK (n : Int) : sL := (n, [])
def sY (k : Nat) : sL := (0, [(k, 1)])
/-- terms added; fuel: both lengths -/
def sadd : Nat → List (Nat × Int) → List (Nat × Int) → List (Nat × Int)
  | 0, a, b => a ++ b
  | _ + 1, [], b => b
  | _ + 1, a, [] => a
  | n + 1, p :: a, q :: b => if Nat.blt p.1 q.1 then p :: sadd n a (q :: b) else if Nat.blt q.1 p.1 then q :: sadd n (p :: a) b else (if p.2 + q.2 = 0 then sadd n a b else (p.1, p.2 + q.2) :: sadd n a b)
def sAdd (a b : sL) : sL := (a.1 + b.1, sadd (a.2.length + b.2.length) a.2 b.2)
def sMul (k : Int) (a : sL) : sL := if k = 0 then (0, []) else (k * a.1, a.2.map (fun q => (q.1, k * q.2)))
def sSub (a b : sL) : sL := sAdd a (sMul (-1) b)
/-- a value: int, long, reference -/
abbrev sA : Type := (sL ⊕ sL) ⊕ Option Nat
abbrev sMem : Type := List (Nat × Nat × Option sL)
abbrev sSt : Type := List (Nat × Int × Int)
/-- what is known of the memory as it stands: (b, n, i, v): at the place b + i of the row of n places from b on stands v; (1000000 + j, _, _, v): the token is string j says v; (2000000, _, i, v): see(i) is v -/
abbrev sMm : Type := List (Nat × Nat × sL × sL)
/-- pc, locals, stack, memory, intervals, forms that are at most 0, the next symbol, what is known -/
abbrev sS : Type := Nat × List (Nat × sA) × List sA × sMem × sSt × List sL × Nat × sMm
abbrev sS.pc (S : sS) : Nat := S.1
abbrev sS.lv (S : sS) : List (Nat × sA) := S.2.1
abbrev sS.st (S : sS) : List sA := S.2.2.1
abbrev sS.me (S : sS) : sMem := S.2.2.2.1
abbrev sS.iv (S : sS) : sSt := S.2.2.2.2.1
abbrev sS.li (S : sS) : List sL := S.2.2.2.2.2.1
abbrev sS.nx (S : sS) : Nat := S.2.2.2.2.2.2.1
abbrev sS.mm (S : sS) : sMm := S.2.2.2.2.2.2.2
/-- the places' profile, in blocks: a block's end; in it from, to (not in it), least, greatest -/
abbrev sP1 : Type := List (Nat × Nat × Int × Int)
abbrev sP : Type := List (Nat × sP1)
def spAt1 : sP1 → Nat → Option (Int × Int)
  | [], _ => none
  | q :: r, p => if Nat.ble q.1 p && Nat.blt p q.2.1 then some q.2.2 else spAt1 r p
def spAt : sP → Nat → Option (Int × Int)
  | [], _ => none
  | b :: r, p => if Nat.blt p b.1 then spAt1 b.2 p else spAt r p
def iMin (a b : Int) : Int := if a ≤ b then a else b
def iMax (a b : Int) : Int := if a ≤ b then b else a
/-- the hull of the profile over the places a .. b -/
def spHull : sP1 → Nat → Nat → Option (Int × Int) → Option (Int × Int)
  | [], _, _, acc => acc
  | q :: r, a, b, acc => if Nat.blt q.1 (b + 1) && Nat.blt a q.2.1 then spHull r a b (match acc with | none => some q.2.2 | some h => some (iMin h.1 q.2.2.1, iMax h.2 q.2.2.2)) else spHull r a b acc
def sfind : sSt → Nat → Option (Int × Int)
  | [], _ => none
  | q :: r, k => if Nat.beq q.1 k then some q.2 else sfind r k
/-- a symbol's interval -/
def sIv (P : sP) (iv : sSt) (k : Nat) : Option (Int × Int) :=
  match sfind iv k with
  | some h => some h
  | none => spAt P k
def sbt (P : sP) (iv : sSt) : List (Nat × Int) → Option (Int × Int)
  | [] => some (0, 0)
  | q :: t => match sIv P iv q.1, sbt P iv t with
    | some h, some g => if 0 ≤ q.2 then some (q.2 * h.1 + g.1, q.2 * h.2 + g.2) else some (q.2 * h.2 + g.1, q.2 * h.1 + g.2)
    | _, _ => none
/-- a form's bounds -/
def sB (P : sP) (iv : sSt) (l : sL) : Option (Int × Int) :=
  match sbt P iv l.2 with
  | some g => some (l.1 + g.1, l.1 + g.2)
  | none => none
def i32l : Int := -2147483648
def i32h : Int := 2147483647
def i64l : Int := -9223372036854775808
def i64h : Int := 9223372036854775807
/-- what the memory is at a place: a form, or unknown in the profile -/
def sLook : sMem → Nat → Option (Option sL)
  | [], _ => none
  | q :: r, p => if Nat.ble q.1 p && Nat.ble p q.2.1 then some q.2.2 else sLook r p
/-- a new symbol in an interval -/
def sNew (S : sS) (lo hi : Int) : sS := (S.pc, S.lv, S.st, S.me, (S.nx, lo, hi) :: S.iv, S.li, S.nx + 1, S.mm)
def sPush (S : sS) (pc : Nat) (st : List sA) (a : sA) : sS := (pc, S.lv, a :: st, S.me, S.iv, S.li, S.nx, S.mm)
def sGo (S : sS) (pc : Nat) (st : List sA) : sS := (pc, S.lv, st, S.me, S.iv, S.li, S.nx, S.mm)
/-- an int that is this form if it can't wrap around, else a new one -/
def sPutI (P : sP) (S : sS) (pc : Nat) (st : List sA) (l : sL) : sS :=
  match sB P S.iv l with
  | some g => if i32l ≤ g.1 ∧ g.2 ≤ i32h then sPush S pc st (.inl (.inl l)) else sPush (sNew S i32l i32h) pc st (.inl (.inl (sY S.nx)))
  | none => sPush (sNew S i32l i32h) pc st (.inl (.inl (sY S.nx)))
def sPutL (P : sP) (S : sS) (pc : Nat) (st : List sA) (l : sL) : sS :=
  match sB P S.iv l with
  | some g => if i64l ≤ g.1 ∧ g.2 ≤ i64h then sPush S pc st (.inl (.inr l)) else sPush (sNew S i64l i64h) pc st (.inl (.inr (sY S.nx)))
  | none => sPush (sNew S i64l i64h) pc st (.inl (.inr (sY S.nx)))
/-- an int unknown in an interval; a constant if it is one -/
def sAnyI (S : sS) (pc : Nat) (st : List sA) (lo hi : Int) : sS := if lo = hi then sPush S pc st (.inl (.inl (sK lo))) else sPush (sNew S lo hi) pc st (.inl (.inl (sY S.nx)))
def sAnyL (S : sS) (pc : Nat) (st : List sA) (lo hi : Int) : sS := if lo = hi then sPush S pc st (.inl (.inr (sK lo))) else sPush (sNew S lo hi) pc st (.inl (.inr (sY S.nx)))
/-- an interval put in the place of the symbol's older one -/
def sSetIv : sSt → Nat → Int → Int → sSt
  | [], k, lo, hi => [(k, lo, hi)]
  | q :: r, k, lo, hi => if Nat.beq q.1 k then (k, lo, hi) :: r else q :: sSetIv r k lo hi
/-- cut a symbol's interval by one term of a form that is at most 0: c * k + rest ≤ 0, rest at least lo -/
def sCut (P : sP) (iv : sSt) (k : Nat) (c lo : Int) : Option sSt :=
  match sIv P iv k with
  | none => some iv
  | some h =>
    if 0 < c then
      (if h.2 ≤ (-lo) / c then some iv else if h.1 ≤ (-lo) / c then some (sSetIv iv k h.1 ((-lo) / c)) else none)
    else if c < 0 then
      (if -((-lo) / (-c)) ≤ h.1 then some iv else if -((-lo) / (-c)) ≤ h.2 then some (sSetIv iv k (-((-lo) / (-c))) h.2) else none)
    else some iv
/-- every term's symbol cut; tot: the whole form's least value -/
def sCuts (P : sP) (iv0 : sSt) (tot : Int) : List (Nat × Int) → sSt → Option sSt
  | [], iv => some iv
  | q :: t, iv => match sIv P iv0 q.1 with
    | none => sCuts P iv0 tot t iv
    | some h => match sCut P iv q.1 q.2 (tot - (if 0 ≤ q.2 then q.2 * h.1 else q.2 * h.2)) with
      | none => none
      | some iv' => sCuts P iv0 tot t iv'
def tEq : List (Nat × Int) → List (Nat × Int) → Bool
  | [], [] => true
  | p :: a, q :: b => Nat.beq p.1 q.1 && (decide (p.2 = q.2) && tEq a b)
  | _, _ => false
def lEq (a b : sL) : Bool := decide (a.1 = b.1) && tEq a.2 b.2
def oEq : Option Nat → Option Nat → Bool
  | none, none => true
  | some a, some b => Nat.beq a b
  | _, _ => false
def aEq : sA → sA → Bool
  | .inl (.inl a), .inl (.inl b) => lEq a b
  | .inl (.inr a), .inl (.inr b) => lEq a b
  | .inr a, .inr b => oEq a b
  | _, _ => false
def asEq : List sA → List sA → Bool
  | [], [] => true
  | a :: r, b :: s => aEq a b && asEq r s
  | _, _ => false
def oLEq : Option sL → Option sL → Bool
  | none, none => true
  | some a, some b => lEq a b
  | _, _ => false
def mEq : sMem → sMem → Bool
  | [], [] => true
  | p :: a, q :: b => Nat.beq p.1 q.1 && (Nat.beq p.2.1 q.2.1 && (oLEq p.2.2 q.2.2 && mEq a b))
  | _, _ => false
/-- is there a form in the list with these terms and at least this constant -/
def sHas (li : List sL) (l : sL) : Bool := li.any (fun m => tEq m.2 l.2 && decide (l.1 ≤ m.1))
/-- from now on l ≤ 0; none: that can't be -/
def sLe (P : sP) (S : sS) (l : sL) : Option sS :=
  match sB P S.iv l with
  | none => some (S.pc, S.lv, S.st, S.me, S.iv, l :: S.li, S.nx, S.mm)
  | some g =>
    if g.2 ≤ 0 then some S
    else if 0 < g.1 then none
    else if sHas S.li (sAdd (sMul (-1) l) (sK 1)) then none
    else match sCuts P S.iv g.1 l.2 S.iv with
      | none => none
      | some iv => some (S.pc, S.lv, S.st, S.me, iv, (match l.2 with | _ :: _ :: _ => l :: S.li | _ => S.li), S.nx, S.mm)
def sEq (P : sP) (S : sS) (l : sL) : Option sS :=
  match sLe P S l with
  | none => none
  | some S1 => sLe P S1 (sMul (-1) l)
def sNe (P : sP) (S : sS) (l : sL) : Option sS :=
  match sB P S.iv l with
  | none => some S
  | some g => if g.1 = 0 then sLe P S (sAdd (sMul (-1) l) (sK 1)) else if g.2 = 0 then sLe P S (sAdd l (sK 1)) else some S
/-- the form d stands to 0 as the condition says -/
def sCond (P : sP) (S : sS) (d : sL) : Jvm.ClassFile.Cond → Option sS
  | .eq => sEq P S d
  | .ne => sNe P S d
  | .lt => sLe P S (sAdd d (sK 1))
  | .ge => sLe P S (sMul (-1) d)
  | .gt => sLe P S (sAdd (sMul (-1) d) (sK 1))
  | .le => sLe P S d
def sNot : Jvm.ClassFile.Cond → Jvm.ClassFile.Cond
  | .eq => .ne
  | .ne => .eq
  | .lt => .ge
  | .ge => .lt
  | .gt => .le
  | .le => .gt
def oList {α : Type} : Option α → List α
  | none => []
  | some a => [a]
def sAt (S : sS) (pc : Nat) : sS := (pc, S.lv, S.st, S.me, S.iv, S.li, S.nx, S.mm)
def sBranch (P : sP) (S : sS) (d : sL) (cd : Jvm.ClassFile.Cond) (tgt next : Nat) : List sS :=
  oList ((sCond P S d cd).map (fun T => sAt T tgt)) ++ oList ((sCond P S d (sNot cd)).map (fun T => sAt T next))
def sLk : List (Nat × sA) → Nat → Option sA
  | [], _ => none
  | q :: r, i => if Nat.beq q.1 i then some q.2 else sLk r i
def sCat : sA → Nat
  | .inl (.inr _) => 2
  | _ => 1
def sSt1 (lv : List (Nat × sA)) (i : Nat) (v : sA) : List (Nat × sA) := (i, v) :: lv.filter (fun q => !(q.1 == i) && !(q.1 + 1 == i && sCat q.2 == 2))
def sSt2 (lv : List (Nat × sA)) (i : Nat) (v : sA) : List (Nat × sA) := (i, v) :: lv.filter (fun q => !(q.1 == i) && (!(q.1 == i + 1) && !(q.1 + 1 == i && sCat q.2 == 2)))
/-- the form is at most 0: by its bounds, or by some of the forms that are known to be -/
def sLq (P : sP) (iv : sSt) (l : sL) : Bool :=
  match sB P iv l with
  | some g => decide (g.2 ≤ 0)
  | none => false
def sCoef : List (Nat × Int) → Nat → Int
  | [], _ => 0
  | q :: r, k => if Nat.beq q.1 k then q.2 else sCoef r k
/-- how often m is taken off l -/
def sFac (l m : sL) : Int :=
  match m.2 with
  | [] => 1
  | q :: _ => if q.2 ≠ 0 ∧ sCoef l.2 q.1 % q.2 = 0 ∧ 1 ≤ sCoef l.2 q.1 / q.2 then sCoef l.2 q.1 / q.2 else 1
def sLastT : List (Nat × Int) → Option (Nat × Int)
  | [] => none
  | [q] => some q
  | _ :: r => sLastT r
/-- the first known form that ends in the symbol, with its factor -/
def sEnd (k : Nat) (c : Int) : List sL → Option sL
  | [] => none
  | m :: r => match sLastT m.2 with
    | some q => if Nat.beq q.1 k && (decide (q.2 ≠ 0) && (decide (c % q.2 = 0) && decide (1 ≤ c / q.2))) then some (sMul (c / q.2) m) else sEnd k c r
    | none => sEnd k c r
def sGreedy (P : sP) (S : sS) : Nat → sL → Bool
  | 0, _ => false
  | n + 1, l => sLq P S.iv l || (match sLastT l.2 with
    | none => false
    | some q => match sEnd q.1 q.2 S.li with
      | some m => sGreedy P S n (sSub l m)
      | none => false)
def sLeq (P : sP) (S : sS) (l : sL) : Bool :=
  sLq P S.iv l || (S.li.any (fun m => sLq P S.iv (sSub l (sMul (sFac l m) m))) || (sGreedy P S 40 l || S.li.any (fun m => S.li.any (fun m2 => sLq P S.iv (sSub (sSub l (sMul (sFac l m) m)) (sMul (sFac (sSub l (sMul (sFac l m) m)) m2) m2))))))
/-- every known form once more cuts intervals; none: that can't be -/
def sProp (P : sP) : List sL → sSt → Option sSt
  | [], iv => some iv
  | l :: r, iv => match sB P iv l with
    | none => sProp P r iv
    | some g => match sCuts P iv g.1 l.2 iv with
      | none => none
      | some iv' => sProp P r iv'
def sIvs (S : sS) (iv : sSt) : sS := (S.pc, S.lv, S.st, S.me, iv, S.li, S.nx, S.mm)
/-- profile (blocks; the list once more, for ranges), graph in blocks of 16, fields by pool number (class, field, kind: 0 int, 1 boolean, 2 reference), int constants, long constants, strings; the places on which what the token is hangs, and what see() says -/
abbrev sE : Type := sP × sP1 × List (List gC) × List (Nat × Nat × Nat × Nat) × List (Nat × Int) × List (Nat × Int) × List (Nat × Nat) × List (Nat × Nat) × List (Nat × Nat)
abbrev sE.P (E : sE) : sP := E.1
abbrev sE.Q (E : sE) : sP1 := E.2.1
abbrev sE.G (E : sE) : List (List gC) := E.2.2.1
abbrev sE.F (E : sE) : List (Nat × Nat × Nat × Nat) := E.2.2.2.1
abbrev sE.CI (E : sE) : List (Nat × Int) := E.2.2.2.2.1
abbrev sE.CL (E : sE) : List (Nat × Int) := E.2.2.2.2.2.1
abbrev sE.CS (E : sE) : List (Nat × Nat) := E.2.2.2.2.2.2.1
abbrev sE.DG (E : sE) : List (Nat × Nat) := E.2.2.2.2.2.2.2.1
abbrev sE.DS (E : sE) : List (Nat × Nat) := E.2.2.2.2.2.2.2.2
def gAt (G : List (List gC)) (k : Nat) : Option gC :=
  match G[k / 16]? with
  | some b => b[k % 16]?
  | none => none
def aFind {α : Type} : List (Nat × α) → Nat → Option α
  | [], _ => none
  | q :: r, k => if Nat.beq q.1 k then some q.2 else aFind r k
abbrev sR : Type := Option (List sS)
def one (S : sS) : sR := some [S]
/-- a place of the memory read -/
def sRdI (E : sE) (S : sS) (pc : Nat) (st : List sA) (p : Nat) : sR :=
  match sLook S.me p with
  | some (some l) => one (sPush S pc st (.inl (.inl l)))
  | some none => match spAt E.P p with
    | some h => one (sAnyI S pc st h.1 h.2)
    | none => none
  | none => match spAt E.P p with
    | some h => one (sPush S pc st (.inl (.inl (if h.1 = h.2 then sK h.1 else sY p))))
    | none => none
def sRdL (E : sE) (S : sS) (pc : Nat) (st : List sA) (p : Nat) : sR :=
  match sLook S.me p with
  | some (some l) => one (sPush S pc st (.inl (.inr l)))
  | some none => match spAt E.P p with
    | some h => one (sAnyL S pc st h.1 h.2)
    | none => none
  | none => match spAt E.P p with
    | some h => one (sPush S pc st (.inl (.inr (if h.1 = h.2 then sK h.1 else sY p))))
    | none => none
/-- does every place a .. b take what lies in lo .. hi -/
def spTakes : sP1 → Nat → Nat → Int → Int → Bool
  | [], _, _, _, _ => true
  | q :: r, a, b, lo, hi => (!(Nat.blt q.1 (b + 1) && Nat.blt a q.2.1) || (decide (q.2.2.1 ≤ lo) && decide (hi ≤ q.2.2.2))) && spTakes r a b lo hi
def sApart (a b : Nat) (q : Nat × Nat) : Bool := Nat.blt q.2 a || Nat.blt b q.1
/-- what stays known when one of the places a .. b is written -/
def sKeep (E : sE) (a b : Nat) (q : Nat × Nat × sL × sL) : Bool :=
  if Nat.blt q.1 1000000 then Nat.beq q.2.1 0 || sApart a b (q.1, q.1 + q.2.1 - 1) else if Nat.blt q.1 2000000 then E.DG.all (sApart a b) else E.DS.all (sApart a b)
/-- a place written (one of a .. b) -/
def sWr (E : sE) (S : sS) (pc : Nat) (st : List sA) (a b : Nat) (l : sL) : sR :=
  match sB E.P S.iv l with
  | some g => if spTakes E.Q a b g.1 g.2 then one (pc, S.lv, st, (a, b, if a = b then some l else none) :: S.me, S.iv, S.li, S.nx, S.mm.filter (sKeep E a b)) else none
  | none => none
/-- an index in its row: the state (its intervals cut further), and the places that it can be; some none: that can't be -/
def sIx (E : sE) (S : sS) (l : sL) (n : Nat) : Option (Option (sS × Nat × Nat)) :=
  match sB E.P S.iv l with
  | none => none
  | some g => if 0 ≤ g.1 ∧ g.2 < (n : Int) then some (some (S, g.1.toNat, g.2.toNat)) else
    match sProp E.P S.li S.iv with
    | none => some none
    | some iv => match sB E.P iv l with
      | none => none
      | some h =>
        if (decide (0 ≤ h.1) || sLeq E.P (sIvs S iv) (sMul (-1) l)) && (decide (h.2 < (n : Int)) || sLeq E.P (sIvs S iv) (sAdd l (sK (1 - (n : Int))))) then
          some (some (sIvs S iv, (iMax h.1 0).toNat, (iMin h.2 ((n : Int) - 1)).toNat)) else none
/-- what a place holds now, as a form; a place of the memory's start has its own symbol -/
def sVal (P : sP) (S : sS) (p : Nat) : Option sL :=
  match spAt P p with
  | none => none
  | some h => match sLook S.me p with
    | some (some l) => some l
    | some none => none
    | none => some (if h.1 = h.2 then sK h.1 else sY p)
def sValB (P : sP) (S : sS) (p : Nat) : Option (Int × Int) :=
  match sVal P S p with
  | some l => sB P S.iv l
  | none => spAt P p
/-- the hull of what stands at n places from a on -/
def sHullV (P : sP) (S : sS) (a : Nat) : Nat → Option (Int × Int)
  | 0 => none
  | 1 => sValB P S a
  | n + 1 => match sHullV P S a n, sValB P S (a + n) with
    | some g, some h => some (iMin g.1 h.1, iMax g.2 h.2)
    | _, _ => none
def sHull (E : sE) (S : sS) (a b : Nat) : Option (Int × Int) := if Nat.blt (b - a) 16 then sHullV E.P S a (b - a + 1) else spHull E.Q a b none
def sKnow : sMm → Nat → Nat → sL → Option sL
  | [], _, _, _ => none
  | q :: r, b, n, i => if Nat.beq q.1 b && (Nat.beq q.2.1 n && lEq q.2.2.1 i) then some q.2.2.2 else sKnow r b n i
def sRdAI (E : sE) (S : sS) (pc : Nat) (st : List sA) (b n : Nat) (i : sL) (h : Nat × Nat) : sR :=
  if h.1 = h.2 then sRdI E S pc st (b + h.1) else match sKnow S.mm b n i with
    | some v => one (sPush S pc st (.inl (.inl v)))
    | none => match sHull E S (b + h.1) (b + h.2) with
      | some g => one (pc, S.lv, .inl (.inl (sY S.nx)) :: st, S.me, (S.nx, g.1, g.2) :: S.iv, S.li, S.nx + 1, (b, n, i, sY S.nx) :: S.mm)
      | none => none
def sRdAL (E : sE) (S : sS) (pc : Nat) (st : List sA) (b n : Nat) (i : sL) (h : Nat × Nat) : sR :=
  if h.1 = h.2 then sRdL E S pc st (b + h.1) else match sKnow S.mm b n i with
    | some v => one (sPush S pc st (.inl (.inr v)))
    | none => match sHull E S (b + h.1) (b + h.2) with
      | some g => one (pc, S.lv, .inl (.inr (sY S.nx)) :: st, S.me, (S.nx, g.1, g.2) :: S.iv, S.li, S.nx + 1, (b, n, i, sY S.nx) :: S.mm)
      | none => none
/-- jumps -/
def sTgt (pc : Nat) (off : Int) : Nat := ((pc : Int) + off).toNat
def sTgtOk (pc : Nat) (off : Int) : Bool := decide (0 ≤ (pc : Int) + off)
/-- a switch's places from the k-th on -/
def sSwitch (P : sP) (S : sS) (pc : Nat) (x : sL) (lo : Int) : Nat → List Int → List sS
  | _, [] => []
  | k, o :: r => oList ((sEq P S (sAdd x (sK (-(lo + (k : Int)))))).map (fun T => sAt T (sTgt pc o))) ++ sSwitch P S pc x lo (k + 1) r
/-- a reference out of an array, place by place -/
def sRefs (P : sP) (S : sS) (x : sL) : Nat → List Nat → List sS
  | _, [] => []
  | k, o :: r => oList ((sEq P S (sAdd x (sK (-(k : Int))))).map (fun T => sPush T T.pc T.st (.inr (some o)))) ++ sRefs P S x (k + 1) r
def isK (l : sL) : Option Int := match l.2 with | [] => some l.1 | _ => none
/-- two bounded ints put together: the result's interval -/
def sArI (P : sP) (S : sS) (ins : Instr) (x y : sL) : Int × Int :=
  match ins, sB P S.iv x, sB P S.iv y with
  | .iand, some g, some h =>
    if g.1 = g.2 ∧ h.1 = h.2 then ((Int32.ofInt g.1 &&& Int32.ofInt h.1).toInt, (Int32.ofInt g.1 &&& Int32.ofInt h.1).toInt)
    else if 0 ≤ g.1 then (if 0 ≤ h.1 then (0, iMin g.2 h.2) else (0, g.2)) else if 0 ≤ h.1 then (0, h.2) else (i32l, i32h)
  | .ior, some g, some h =>
    if g.1 = g.2 ∧ h.1 = h.2 then ((Int32.ofInt g.1 ||| Int32.ofInt h.1).toInt, (Int32.ofInt g.1 ||| Int32.ofInt h.1).toInt) else (i32l, i32h)
  | .ixor, some g, some h =>
    if g.1 = g.2 ∧ h.1 = h.2 then ((Int32.ofInt g.1 ^^^ Int32.ofInt h.1).toInt, (Int32.ofInt g.1 ^^^ Int32.ofInt h.1).toInt) else (i32l, i32h)
  | .ishl, some g, some h =>
    if g.1 = g.2 ∧ h.1 = h.2 then ((Int32.ofInt g.1 <<< (Int32.ofInt h.1 &&& 31)).toInt, (Int32.ofInt g.1 <<< (Int32.ofInt h.1 &&& 31)).toInt)
    else if 0 ≤ g.1 ∧ 0 ≤ h.1 ∧ h.2 ≤ 30 ∧ g.2 * 2 ^ h.2.toNat ≤ i32h then (0, g.2 * 2 ^ h.2.toNat) else (i32l, i32h)
  | .ishr, some g, some _ => if 0 ≤ g.1 then (0, g.2) else (i32l, i32h)
  | .iushr, some g, some _ => if 0 ≤ g.1 then (0, g.2) else (i32l, i32h)
  | _, _, _ => (i32l, i32h)
