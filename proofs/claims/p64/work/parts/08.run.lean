/-! THE ENGINE, runs: loops, calls by contract, exits -/
def bindL (f : sS → sR) : List sS → sR
  | [] => some []
  | a :: r => match f a, bindL f r with
    | some x, some y => some (x ++ y)
    | _, _ => none
/-- a loop's head: locals that the loop writes (local k * s, s in an interval), places (one with its interval; or a range, unknown), a measure: constant, and factors of locals (inl) and places (inr); places that never fall -/
abbrev sH : Type := List (Nat × Int × Int × Int) × List (Nat × Nat × Option (Int × Int)) × Int × List (Int × (Nat ⊕ Nat)) × List Nat
def sDvT (k : Int) : List (Nat × Int) → Option (List (Nat × Int))
  | [] => some []
  | q :: r => if q.2 % k = 0 then (match sDvT k r with | some t => some ((q.1, q.2 / k) :: t) | none => none) else none
/-- the form by k, if it is a multiple of it term by term -/
def sDv (k : Int) (l : sL) : Option sL :=
  if k = 1 then some l else if l.1 % k = 0 then (match sDvT k l.2 with | some t => some (l.1 / k, t) | none => none) else none
def sInDv (P : sP) (S : sS) (k : Int) (l : sL) (lo hi : Int) : Bool :=
  match sDv k l with
  | some m => sRanged P S m lo hi
  | none => false
def sHavL (P : sP) : List (Nat × Int × Int × Int) → sS → Option sS
  | [], S => some S
  | q :: r, S => if q.2.2.2 = 0 then none else match sLk S.lv q.1 with
    | some (.inl (.inl l)) => if sInDv P S q.2.2.2 l q.2.1 q.2.2.1 then sHavL P r (S.pc, sSt1 S.lv q.1 (.inl (.inl (sMul q.2.2.2 (sY S.nx)))), S.st, S.me, (S.nx, q.2.1, q.2.2.1) :: S.iv, S.li, S.nx + 1, S.mm) else none
    | some (.inl (.inr l)) => if sInDv P S q.2.2.2 l q.2.1 q.2.2.1 then sHavL P r (S.pc, sSt2 S.lv q.1 (.inl (.inr (sMul q.2.2.2 (sY S.nx)))), S.st, S.me, (S.nx, q.2.1, q.2.2.1) :: S.iv, S.li, S.nx + 1, S.mm) else none
    | _ => none
/-- a place's value lies in the interval -/
def sValIn (P : sP) (S : sS) (p : Nat) (lo hi : Int) : Bool :=
  match sVal P S p with
  | some l => sRanged P S l lo hi
  | none => match spAt P p with
    | some g => decide (lo ≤ g.1) && decide (g.2 ≤ hi)
    | none => false
def sHavM (P : sP) : List (Nat × Nat × Option (Int × Int)) → sS → Option sS
  | [], S => some S
  | q :: r, S => match q.2.2 with
    | none => sHavM P r (S.pc, S.lv, S.st, (q.1, q.2.1, none) :: S.me, S.iv, S.li, S.nx, S.mm)
    | some h =>
      if Nat.beq q.1 q.2.1 && sValIn P S q.1 h.1 h.2
      then sHavM P r (S.pc, S.lv, S.st, (q.1, q.1, some (sY S.nx)) :: S.me, (S.nx, h.1, h.2) :: S.iv, S.li, S.nx + 1, S.mm) else none
/-- the places that never fall, as forms: S comes to the head, T is the head's -/
def sMono (P : sP) (S T : sS) : List Nat → List sL
  | [] => []
  | p :: r => match sVal P S p, sVal P T p with
    | some l, some m => sSub l m :: sMono P S T r
    | _, _ => sMono P S T r
/-- the head's own state, out of one that comes to it -/
def sHead (P : sP) (H : sH) (S : sS) : Option sS :=
  match sHavL P H.1 S with
  | some S1 => (sHavM P H.2.1 S1).map (fun T => (T.pc, T.lv, T.st, T.me, T.iv, sMono P S T H.2.2.2.2 ++ T.li, T.nx, []))
  | none => none
/-- the first head that fits -/
def sHeads (P : sP) (S : sS) : List sH → Option (sH × sS)
  | [] => none
  | H :: r => match sHead P H S with
    | some S1 => some (H, S1)
    | none => sHeads P S r
def sMeas (P : sP) (S : sS) : List (Int × (Nat ⊕ Nat)) → Option sL
  | [] => some (sK 0)
  | q :: r => match (match q.2 with
      | .inl i => match sLk S.lv i with
        | some (.inl (.inl l)) => some l
        | _ => none
      | .inr p => sVal P S p), sMeas P S r with
    | some l, some m => some (sAdd (sMul q.1 l) m)
    | _, _ => none
/-- a state that is back at the head stands in the head's state again, with a smaller measure -/
def sBackL (P : sP) (H : sH) (B : sS) (q : Nat × sA) : Bool :=
  match aFind H.1 q.1 with
  | some h => match q.2, sLk B.lv q.1 with
    | .inl (.inl _), some (.inl (.inl l)) => sInDv P B h.2.2 l h.1 h.2.1
    | .inl (.inr _), some (.inl (.inr l)) => sInDv P B h.2.2 l h.1 h.2.1
    | _, _ => false
  | none => match sLk B.lv q.1 with
    | some a => aEq a q.2
    | none => false
def sIn (me : List (Nat × Nat × Option (Int × Int))) (a b : Nat) : Bool := me.any (fun q => Nat.ble q.1 a && Nat.ble b q.2.1)
def sBackM (P : sP) (B : sS) (q : Nat × Nat × Option (Int × Int)) : Bool :=
  match q.2.2 with
  | none => true
  | some h => sValIn P B q.1 h.1 h.2
def sBackP (P : sP) (S B : sS) (p : Nat) : Bool :=
  match sVal P S p with
  | none => true
  | some l => match sVal P B p with
    | some m => sLeq P B (sSub l m)
    | none => false
def sKd : sA → Nat
  | .inl (.inl _) => 0
  | .inl (.inr _) => 1
  | .inr _ => 2
def sBackH (P : sP) (S B : sS) (h : Nat × Int × Int × Int) : Bool :=
  match sLk B.lv h.1 with
  | some (.inl (.inl l)) => sInDv P B h.2.2.2 l h.2.1 h.2.2.1 && S.lv.all (fun q => !(Nat.beq q.1 h.1) || Nat.beq (sKd q.2) 0)
  | some (.inl (.inr l)) => sInDv P B h.2.2.2 l h.2.1 h.2.2.1 && S.lv.all (fun q => !(Nat.beq q.1 h.1) || Nat.beq (sKd q.2) 1)
  | _ => false
def sBack (P : sP) (H : sH) (S S1 B : sS) : Bool :=
  H.1.all (sBackH P S B) && asEq B.st S1.st && (S1.lv.all (sBackL P H B) && (Nat.ble S1.me.length B.me.length && (mEq (B.me.drop (B.me.length - S1.me.length)) S1.me && ((B.me.take (B.me.length - S1.me.length)).all (fun e => sIn H.2.1 e.1 e.2.1) && (H.2.1.all (sBackM P B) && (H.2.2.2.2.all (sBackP P S B) &&
  (match sMeas P S1 H.2.2.2.1, sMeas P B H.2.2.2.1 with
    | some m, some m' => (match sB P S1.iv (sAdd m (sK H.2.2.1)) with | some g => decide (0 ≤ g.1) | none => false) && sLeq P B (sAdd (sSub m' m) (sK 1))
    | _, _ => false)))))))
/-- an argument's pattern -/
abbrev sG : Type := (Int × Int) ⊕ ((Int × Int) ⊕ Option Nat)
/-- a contract's exit: answer, memory, intervals, forms, how many new symbols -/
abbrev sX : Type := Option sA × sMem × sSt × List sL × Nat
/-- a contract: arguments, places that must lie in an interval, places that its exits speak of, exits -/
abbrev sC : Type := List sG × sSt × List Nat × List sX
def sArgOk (P : sP) (S : sS) : List sG → List sA → Bool
  | [], [] => true
  | .inl h :: r, .inl (.inl l) :: s => sRanged P S l h.1 h.2 && sArgOk P S r s
  | .inr (.inl h) :: r, .inl (.inr l) :: s => sRanged P S l h.1 h.2 && sArgOk P S r s
  | .inr (.inr o) :: r, .inr o' :: s => oEq o o' && sArgOk P S r s
  | _, _ => false
def sPreOk (P : sP) (S : sS) (h : Nat × Int × Int) : Bool := sValIn P S h.1 h.2.1 h.2.2
/-- the strings that a token is asked to be, twice; symbols M + 9 on say whether it is at the start -/
def sGh : List Nat := [4, 10, 11]
def sGk (j : Nat) : Nat := 1000000 + j
/-- places that are unknown get a symbol -/
def sMat (M : Nat) (P : sP) : List Nat → sS → Option sS
  | [], S => some S
  | p :: r, S => if Nat.ble M p then
      (match sGh[p - (M + 9)]? with
      | none => none
      | some j => match sKnow S.mm (sGk j) 0 (sK 0) with
        | some _ => sMat M P r S
        | none => sMat M P r (S.pc, S.lv, S.st, S.me, (S.nx, 0, 1) :: S.iv, S.li, S.nx + 1, (sGk j, 0, sK 0, sY S.nx) :: S.mm))
    else match sLook S.me p with
    | some none => match spAt P p with
      | some h => sMat M P r (S.pc, S.lv, S.st, (p, p, some (sY S.nx)) :: S.me, (S.nx, h.1, h.2) :: S.iv, S.li, S.nx + 1, S.mm)
      | none => none
    | _ => sMat M P r S
/-- a symbol of a contract at the place of its call -/
def sSub1 (M : Nat) (P : sP) (S : sS) (as : List sA) (b cnt k : Nat) : Option sL :=
  if Nat.blt k M then sVal P S k
  else if Nat.blt k (M + 9) then (match as[k - M]? with
    | some (.inl (.inl l)) => some l
    | some (.inl (.inr l)) => some l
    | _ => none)
  else if Nat.blt k (M + 16) then (match sGh[k - (M + 9)]? with
    | some j => sKnow S.mm (sGk j) 0 (sK 0)
    | none => none)
  else if Nat.blt (k - (M + 16)) cnt then some (sY (b + (k - (M + 16)))) else none
def sSubT (f : Nat → Option sL) : List (Nat × Int) → Option sL
  | [] => some (sK 0)
  | q :: r => match f q.1, sSubT f r with
    | some l, some m => some (sAdd (sMul q.2 l) m)
    | _, _ => none
def sSubL (f : Nat → Option sL) (l : sL) : Option sL :=
  match sSubT f l.2 with
  | some m => some (sAdd (sK l.1) m)
  | none => none
def sSubM (f : Nat → Option sL) : sMem → Option sMem
  | [] => some []
  | q :: r => match sSubM f r with
    | none => none
    | some t => match q.2.2 with
      | none => some ((q.1, q.2.1, none) :: t)
      | some l => match sSubL f l with
        | some m => some ((q.1, q.2.1, some m) :: t)
        | none => none
def sSubA (f : Nat → Option sL) : sA → Option sA
  | .inl (.inl l) => (sSubL f l).map (fun m => .inl (.inl m))
  | .inl (.inr l) => (sSubL f l).map (fun m => .inl (.inr m))
  | .inr o => some (.inr o)
def sAddIv (S : sS) (k : Nat) (lo hi : Int) : sS := (S.pc, S.lv, S.st, S.me, (k, lo, hi) :: S.iv, S.li, S.nx, S.mm)
/-- intervals of a contract's exit: of made symbols they are taken over, of others they are learnt; none: can't go on; some none: can't be -/
def sLearn (M : Nat) (P : sP) (f : Nat → Option sL) (b : Nat) : sSt → sS → Option (Option sS)
  | [], S => some (some S)
  | q :: r, S =>
    if Nat.ble (M + 16) q.1 then (if oLEq (f q.1) (some (sY (b + (q.1 - (M + 16))))) then sLearn M P f b r (sAddIv S (b + (q.1 - (M + 16))) q.2.1 q.2.2) else none)
    else match f q.1 with
      | none => none
      | some l => match sLe P S (sAdd l (sK (-q.2.2))) with
        | none => some none
        | some S1 => match sLe P S1 (sAdd (sMul (-1) l) (sK q.2.1)) with
          | none => some none
          | some S2 => sLearn M P f b r S2
def sLearnF (P : sP) (f : Nat → Option sL) : List sL → sS → Option (Option sS)
  | [], S => some (some S)
  | l :: r, S => match sSubL f l with
    | none => none
    | some m => match sLe P S m with
      | none => some none
      | some S1 => sLearnF P f r S1
/-- one exit taken at a call: S has the stack behind the arguments and the pc behind the call -/
def sExit (M : Nat) (P : sP) (S : sS) (as : List sA) (x : sX) : sR :=
  let f := sSub1 M P S as S.nx x.2.2.2.2
  match sSubM f x.2.1, (match x.1 with | none => some none | some a => (sSubA f a).map some) with
  | some me, some rt =>
    match sLearn M P f S.nx x.2.2.1 (S.pc, S.lv, S.st, S.me, S.iv, S.li, S.nx + x.2.2.2.2, S.mm) with
    | none => none
    | some none => some []
    | some (some S1) => match sLearnF P f x.2.2.2.1 S1 with
      | none => none
      | some none => some []
      | some (some S2) => one (S2.pc, S2.lv, (match rt with | none => S2.st | some a => a :: S2.st), me ++ S2.me, S2.iv, S2.li, S2.nx, match me with | [] => S2.mm | _ => [])
  | _, _ => none
def sExits (M : Nat) (P : sP) (S : sS) (as : List sA) : List sX → sR
  | [] => some []
  | x :: r => match sExit M P S as x, sExits M P S as r with
    | some a, some b => some (a ++ b)
    | _, _ => none
/-- a method's own tables: places, environment, code, loops, splits (pc, local), heads that are passed by when two places hold one form, calls: by pool number the kind (0 virtual, 1 static, 2 arraycopy of longs, 3 see), how many arguments (the receiver too), contracts to be tried -/
abbrev sY1 : Type := Nat × sE × sCode × List (Nat × List sH) × List (Nat × Nat) × List (Nat × Nat × Nat) × List (Nat × Nat × Nat × List (Nat × sC))
abbrev sY1.M (Y : sY1) : Nat := Y.1
abbrev sY1.E (Y : sY1) : sE := Y.2.1
abbrev sY1.C (Y : sY1) : sCode := Y.2.2.1
abbrev sY1.L (Y : sY1) : List (Nat × List sH) := Y.2.2.2.1
abbrev sY1.S (Y : sY1) : List (Nat × Nat) := Y.2.2.2.2.1
abbrev sY1.W (Y : sY1) : List (Nat × Nat × Nat) := Y.2.2.2.2.2.1
abbrev sY1.K (Y : sY1) : List (Nat × Nat × Nat × List (Nat × sC)) := Y.2.2.2.2.2.2
def sPick (P : sP) (S : sS) (as : List sA) : List (Nat × sC) → Option (Nat × sC)
  | [] => none
  | c :: r => if sArgOk P S c.2.1 as && c.2.2.1.all (sPreOk P S) then some c else sPick P S as r
def sCopy (E : sE) (S : sS) : sR :=
  match S.st with
  | .inl (.inl n) :: .inl (.inl k) :: .inr (some d) :: .inl (.inl i) :: .inr (some o) :: st =>
    match gAt E.G o, gAt E.G d with
    | some (.inr (.inl (3, _, m1))), some (.inr (.inl (3, b, m2))) =>
      match sProp E.P S.li S.iv with
      | none => some []
      | some iv =>
        let T := sIvs S iv
        if sLeq E.P T (sMul (-1) n) && (sLeq E.P T (sMul (-1) k) && (sLeq E.P T (sMul (-1) i) && (sLeq E.P T (sAdd (sAdd i n) (sK (-(m1 : Int)))) && sLeq E.P T (sAdd (sAdd k n) (sK (-(m2 : Int))))))) && Nat.ble (st.map sCat).sum 8 && spTakes E.Q b (b + m2 - 1) i64l i64h then
          one (S.pc + 3, S.lv, st, (b, b + m2 - 1, none) :: S.me, iv, S.li, S.nx, []) else none
    | _, _ => none
  | _ => none
/-- what a call of see() answered is known from now on -/
def sSeen (i : sL) (B : sS) : sS :=
  match B.st with
  | .inl (.inl v) :: _ => (B.pc, B.lv, B.st, B.me, B.iv, B.li, B.nx, (2000000, 0, i, v) :: B.mm)
  | _ => B
def sCallC (Y : sY1) (S : sS) (n : Nat) (cs : List (Nat × sC)) : sR :=
      let as := (S.st.take n).reverse
      let st := S.st.drop n
      if Nat.ble n S.st.length && Nat.ble (st.map sCat).sum 8 then
        match sPick Y.E.P S as cs with
        | none => none
        | some c => match sMat Y.M Y.E.P c.2.2.2.1 (S.pc + 3, S.lv, st, S.me, S.iv, S.li, S.nx, S.mm) with
          | none => none
          | some S1 => sExits Y.M Y.E.P S1 as c.2.2.2.2
      else none
def sCall (Y : sY1) (S : sS) (idx kind : Nat) : sR :=
  match aFind Y.K idx with
  | none => none
  | some e =>
    if Nat.beq e.1 2 && Nat.beq kind 1 then sCopy Y.E S
    else if Nat.beq e.1 3 && Nat.beq kind 0 then
      (match S.st with
      | .inl (.inl i) :: .inr _ :: st => match sCallC Y S 2 e.2.2 with
        | none => none
        | some R => match sKnow S.mm 2000000 0 i with
          | some v => one (sPush S (S.pc + 3) st (.inl (.inl v)))
          | none => some (R.map (sSeen i))
      | _ => none)
    else if Nat.beq e.1 kind then sCallC Y S e.2.1 e.2.2
    else none
def sStep (Y : sY1) (S : sS) (ins : Instr) (len : Nat) : sR :=
  match ins with
  | .invokevirtual i => sCall Y S i 0
  | .invokestatic i => sCall Y S i 1
  | _ => sStep1 Y.E Y.C S ins len
def sRet : Instr → Bool
  | .ireturn => true
  | .lreturn => true
  | .areturn => true
  | .return_ => true
  | _ => false
/-- a local taken value by value -/
def sSplit (P : sP) (S : sS) (l : sL) (lo : Int) : Nat → List sS
  | 0 => []
  | n + 1 => oList (sEq P S (sAdd l (sK (-lo)))) ++ sSplit P S l (lo + 1) n
def sRun (Y : sY1) : Nat → List Nat → sS → sR
  | 0, _, _ => none
  | n + 1, stops, S =>
    if stops.any (Nat.beq S.pc) then one S
    else match cAt Y.C S.pc with
      | none => none
      | some q =>
        match (match aFind Y.W S.pc with
          | none => aFind Y.L S.pc
          | some w => match sVal Y.E.P S w.1, sVal Y.E.P S w.2 with
            | some a, some b => if lEq a b then none else aFind Y.L S.pc
            | _, _ => aFind Y.L S.pc) with
        | none => if sRet q.1 then one S else
          match (match aFind Y.S S.pc with
            | none => none
            | some i => match sLk S.lv i with
              | some (.inl (.inl l)) => match sB Y.E.P S.iv l with
                | some g => if g.1 < g.2 then some (l, g) else none
                | none => none
              | _ => none) with
          | some lg => bindL (sRun Y n stops) (sSplit Y.E.P S lg.1 lg.2.1 (lg.2.2 - lg.2.1 + 1).toNat)
          | none => match sStep Y S q.1 q.2 with
            | none => none
            | some L => bindL (sRun Y n stops) L
        | some Hs =>
          match sHeads Y.E.P S Hs with
          | none => none
          | some HS => match sStep Y HS.2 q.1 q.2 with
            | none => none
            | some L => match bindL (sRun Y n (HS.2.pc :: stops)) L with
              | none => none
              | some R => if R.all (fun B => !(Nat.beq B.pc HS.2.pc) || sBack Y.E.P HS.1 S HS.2 B) then some (R.filter (fun B => !(Nat.beq B.pc HS.2.pc))) else none
/-- made symbols of an exit, by what the state at the return holds -/
def sCovM (P : sP) (M : Nat) (B : sS) : sMem → List (Nat × sL) → Option (List (Nat × sL))
  | [], m => some m
  | q :: r, m => match q.2.2 with
    | none => sCovM P M B r m
    | some l => match l with
      | (0, [(k, 1)]) => if Nat.ble (M + 16) k then (match sVal P B q.1 with
          | some v => sCovM P M B r ((k, v) :: m)
          | none => none) else sCovM P M B r m
      | _ => sCovM P M B r m
def sSame (P : sP) (B : sS) (a b : sL) : Bool := lEq a b || (match sB P B.iv (sSub a b) with | some g => decide (g.1 = 0) && decide (g.2 = 0) | none => false)
def sCovA (M : Nat) (B : sS) (o : Option sA) (m : List (Nat × sL)) : List (Nat × sL) :=
  match o, B.st with
  | some (.inl (.inl (0, [(k, 1)]))), [.inl (.inl v)] => if Nat.ble (M + 16) k then (k, v) :: m else m
  | some (.inl (.inr (0, [(k, 1)]))), [.inl (.inr v)] => if Nat.ble (M + 16) k then (k, v) :: m else m
  | _, _ => m
def sMapF (M : Nat) (m : List (Nat × sL)) (k : Nat) : Option sL := if Nat.ble (M + 16) k then aFind m k else some (sY k)
def sCover (P : sP) (M : Nat) (B : sS) (x : sX) : Bool :=
  match sCovM P M B x.2.1 [] with
  | none => false
  | some m0 =>
      let f := sMapF M (sCovA M B x.1 m0)
      (match x.1, B.st with
        | none, [] => true
        | some (.inl (.inl l)), [.inl (.inl v)] => (match sSubL f l with | some u => sSame P B u v | none => false)
        | some (.inl (.inr l)), [.inl (.inr v)] => (match sSubL f l with | some u => sSame P B u v | none => false)
        | some (.inr o), [.inr o'] => oEq o o'
        | _, _ => false) &&
      (x.2.1.all (fun q => match q.2.2 with
        | none => true
        | some l => Nat.beq q.1 q.2.1 && (match sSubL f l, sVal P B q.1 with
          | some u, some v => sSame P B u v
          | _, _ => false)) &&
      (B.me.all (fun e => x.2.1.any (fun q => Nat.ble q.1 e.1 && Nat.ble e.2.1 q.2.1)) &&
      (x.2.2.1.all (fun q => match f q.1 with
        | some u => sRanged P B u q.2.1 q.2.2
        | none => false) &&
      x.2.2.2.1.all (fun l => match sSubL f l with
        | some u => sLeq P B u
        | none => false))))
def sGo0 (M : Nat) : Nat → Nat → List sG → List (Nat × sA) × sSt
  | _, _, [] => ([], [])
  | i, j, .inl h :: r => ((i, .inl (.inl (sY (M + j)))) :: (sGo0 M (i + 1) (j + 1) r).1, (M + j, h.1, h.2) :: (sGo0 M (i + 1) (j + 1) r).2)
  | i, j, .inr (.inl h) :: r => ((i, .inl (.inr (sY (M + j)))) :: (sGo0 M (i + 2) (j + 1) r).1, (M + j, h.1, h.2) :: (sGo0 M (i + 2) (j + 1) r).2)
  | i, j, .inr (.inr o) :: r => ((i, .inr o) :: (sGo0 M (i + 1) (j + 1) r).1, (sGo0 M (i + 1) (j + 1) r).2)
def sGh0 (M : Nat) : List (Nat × Int × Int) := [(M + 9, 0, 1), (M + 10, 0, 1), (M + 11, 0, 1)]
def sGm0 (M : Nat) : sMm := [(sGk 4, 0, sK 0, sY (M + 9)), (sGk 10, 0, sK 0, sY (M + 10)), (sGk 11, 0, sK 0, sY (M + 11))]
def sStart (M : Nat) (gs : List sG) (pre : sSt) : sS := (0, (sGo0 M 0 0 gs).1, [], [], (sGo0 M 0 0 gs).2 ++ (pre ++ sGh0 M), [], M + 16, sGm0 M)
/-- a state at a return: what stands on the stack goes with the instruction and the answer's kind (0 int, 1 boolean, 2 long, 3 object, 4 nothing) -/
def sRetOk (Y : sY1) (rt : Nat) (B : sS) : Bool :=
  match cAt Y.C B.pc, B.st with
  | some (.ireturn, 1), [.inl (.inl l)] => Nat.beq rt 0 || (Nat.beq rt 1 && sRanged Y.E.P B l 0 1)
  | some (.lreturn, 1), [.inl (.inr _)] => Nat.beq rt 2
  | some (.areturn, 1), [.inr _] => Nat.beq rt 3
  | some (.return_, 1), [] => Nat.beq rt 4
  | _, _ => false
/-- a contract's check -/
def sCheck (Y : sY1) (rt n : Nat) (c : sC) : Bool :=
  Nat.ble c.1.length 9 && (c.2.1.all (fun h => Nat.blt h.1 Y.M) && (match sRun Y n [] (sStart Y.M c.1 c.2.1) with
  | none => false
  | some R => R.all (fun B => sRetOk Y rt B && c.2.2.2.any (fun x => sCover Y.E.P Y.M B x))))
