/-! THE ENGINE, one instruction -/
/-- code in blocks: a block's end, its instructions -/
abbrev sCode : Type := List (Nat × List (Nat × Instr × Nat))
def cAt : sCode → Nat → Option (Instr × Nat)
  | [], _ => none
  | b :: r, p => if Nat.blt p b.1 then aFind b.2 p else cAt r p
def sResI (S : sS) (pc : Nat) (st : List sA) (h : Int × Int) : sR := one (sAnyI S pc st h.1 h.2)
def sDiv (P : sP) (S : sS) (x y : sL) : Option (Int × Int) :=
  match sB P S.iv x, isK y with
  | some g, some c => if 0 < c then some (g.1.tdiv c, g.2.tdiv c) else none
  | _, _ => none
def sRem (P : sP) (S : sS) (x y : sL) : Option (Int × Int) :=
  match sB P S.iv x, isK y with
  | some g, some c => if 0 < c then (if g.1 = g.2 then some (g.1.tmod c, g.1.tmod c) else if 0 ≤ g.1 then some (0, iMin g.2 (c - 1)) else some (-(c - 1), c - 1)) else none
  | _, _ => none
def sRanged (P : sP) (S : sS) (l : sL) (lo hi : Int) : Bool :=
  match sB P S.iv l with
  | some g => decide (lo ≤ g.1) && decide (g.2 ≤ hi)
  | none => false
/-- x / c, c > 0: the quotient q; of x that isn't negative: c q ≤ x ≤ c q + c - 1 -/
def sDivP (P : sP) (S : sS) (pc : Nat) (st : List sA) (x : sL) (c : Int) : Option sS :=
  match sB P S.iv x with
  | none => some (sAnyI S pc st i32l i32h)
  | some g => if g.1.tdiv c = g.2.tdiv c then some (sAnyI S pc st (g.1.tdiv c) (g.2.tdiv c)) else
    some (pc, S.lv, .inl (.inl (sY S.nx)) :: st, S.me, (S.nx, g.1.tdiv c, g.2.tdiv c) :: S.iv,
      sAdd (sAdd x (sMul (-c) (sY S.nx))) (sK (-(c - 1))) :: sAdd (sMul (-1) x) (sMul c (sY S.nx)) :: S.li, S.nx + 1, S.mm)
def sDivN (P : sP) (S : sS) (pc : Nat) (st : List sA) (x : sL) (c : Int) : Option sS :=
  match sB P S.iv x with
  | none => some (sAnyI S pc st i32l i32h)
  | some g => some (sAnyI S pc st (g.1.tdiv c) (g.2.tdiv c))
def okB (b : Bool) (r : sR) : sR := if b then r else none
def sStep1 (E : sE) (code : sCode) (S : sS) (ins : Instr) (len : Nat) : sR :=
  let P := E.P
  let n := S.pc + len
  match ins, S.st with
  | .iconst k, st => okB (decide (i32l ≤ k) && decide (k ≤ i32h)) (one (sPush S n st (.inl (.inl (sK k)))))
  | .bipush k, st => okB (decide (-128 ≤ k) && decide (k ≤ 127)) (one (sPush S n st (.inl (.inl (sK k)))))
  | .sipush k, st => okB (decide (-32768 ≤ k) && decide (k ≤ 32767)) (one (sPush S n st (.inl (.inl (sK k)))))
  | .lconst k, st => one (sPush S n st (.inl (.inr (sK ((k : Nat) : Int)))))
  | .aconst_null, st => one (sPush S n st (.inr none))
  | .ldc i, st => match aFind E.CI i with
    | some v => one (sPush S n st (.inl (.inl (sK v))))
    | none => match aFind E.CS i with
      | some j => one (sPush S n st (.inr (some (1000 + j))))
      | none => none
  | .ldc_w i, st => match aFind E.CI i with
    | some v => one (sPush S n st (.inl (.inl (sK v))))
    | none => none
  | .ldc2_w i, st => match aFind E.CL i with
    | some v => one (sPush S n st (.inl (.inr (sK v))))
    | none => none
  | .iload_n i, st => match sLk S.lv (i : Nat) with
    | some (.inl (.inl l)) => one (sPush S n st (.inl (.inl l)))
    | _ => none
  | .iload i, st => match sLk S.lv i with
    | some (.inl (.inl l)) => one (sPush S n st (.inl (.inl l)))
    | _ => none
  | .lload_n i, st => match sLk S.lv (i : Nat) with
    | some (.inl (.inr l)) => one (sPush S n st (.inl (.inr l)))
    | _ => none
  | .lload i, st => match sLk S.lv i with
    | some (.inl (.inr l)) => one (sPush S n st (.inl (.inr l)))
    | _ => none
  | .aload_n i, st => match sLk S.lv (i : Nat) with
    | some (.inr o) => one (sPush S n st (.inr o))
    | _ => none
  | .aload i, st => match sLk S.lv i with
    | some (.inr o) => one (sPush S n st (.inr o))
    | _ => none
  | .istore_n i, .inl (.inl l) :: st => one (n, sSt1 S.lv (i : Nat) (.inl (.inl l)), st, S.me, S.iv, S.li, S.nx, S.mm)
  | .istore i, .inl (.inl l) :: st => one (n, sSt1 S.lv i (.inl (.inl l)), st, S.me, S.iv, S.li, S.nx, S.mm)
  | .lstore_n i, .inl (.inr l) :: st => one (n, sSt2 S.lv (i : Nat) (.inl (.inr l)), st, S.me, S.iv, S.li, S.nx, S.mm)
  | .lstore i, .inl (.inr l) :: st => one (n, sSt2 S.lv i (.inl (.inr l)), st, S.me, S.iv, S.li, S.nx, S.mm)
  | .astore_n i, .inr o :: st => one (n, sSt1 S.lv (i : Nat) (.inr o), st, S.me, S.iv, S.li, S.nx, S.mm)
  | .astore i, .inr o :: st => one (n, sSt1 S.lv i (.inr o), st, S.me, S.iv, S.li, S.nx, S.mm)
  | .iinc i k, st => match sLk S.lv i with
    | some (.inl (.inl l)) => if sRanged P S (sAdd l (sK k)) i32l i32h then one (n, sSt1 S.lv i (.inl (.inl (sAdd l (sK k)))), st, S.me, S.iv, S.li, S.nx, S.mm)
      else one (n, sSt1 S.lv i (.inl (.inl (sY S.nx))), st, S.me, (S.nx, i32l, i32h) :: S.iv, S.li, S.nx + 1, S.mm)
    | _ => none
  | .iadd, .inl (.inl y) :: .inl (.inl x) :: st => one (sPutI P S n st (sAdd x y))
  | .isub, .inl (.inl y) :: .inl (.inl x) :: st => one (sPutI P S n st (sSub x y))
  | .imul, .inl (.inl y) :: .inl (.inl x) :: st => match isK x, isK y with
    | some a, _ => one (sPutI P S n st (sMul a y))
    | none, some b => one (sPutI P S n st (sMul b x))
    | none, none => sResI S n st (sArI P S .imul x y)
  | .ineg, .inl (.inl x) :: st => one (sPutI P S n st (sMul (-1) x))
  | .iand, .inl (.inl y) :: .inl (.inl x) :: st => sResI S n st (sArI P S .iand x y)
  | .ior, .inl (.inl y) :: .inl (.inl x) :: st => sResI S n st (sArI P S .ior x y)
  | .ixor, .inl (.inl y) :: .inl (.inl x) :: st => sResI S n st (sArI P S .ixor x y)
  | .ishl, .inl (.inl y) :: .inl (.inl x) :: st => sResI S n st (sArI P S .ishl x y)
  | .ishr, .inl (.inl y) :: .inl (.inl x) :: st => sResI S n st (sArI P S .ishr x y)
  | .iushr, .inl (.inl y) :: .inl (.inl x) :: st => sResI S n st (sArI P S .iushr x y)
  | .idiv, .inl (.inl y) :: .inl (.inl x) :: st => match isK y with
    | some c => okB (decide (0 < c) && decide (c ≤ i32h)) (some (oList ((sLe P S (sMul (-1) x)).bind (fun T => sDivP P T n st x c)) ++ oList ((sLe P S (sAdd x (sK 1))).bind (fun T => sDivN P T n st x c))))
    | none => none
  | .irem, .inl (.inl y) :: .inl (.inl x) :: st => match sRem P S x y with
    | some h => one (sAnyI S n st h.1 h.2)
    | none => none
  | .i2l, .inl (.inl x) :: st => one (sPush S n st (.inl (.inr x)))
  | .l2i, .inl (.inr x) :: st => if sRanged P S x i32l i32h then one (sPush S n st (.inl (.inl x))) else one (sAnyI S n st i32l i32h)
  | .i2b, .inl (.inl x) :: st => if sRanged P S x (-128) 127 then one (sPush S n st (.inl (.inl x))) else one (sAnyI S n st (-128) 127)
  | .i2s, .inl (.inl x) :: st => if sRanged P S x (-32768) 32767 then one (sPush S n st (.inl (.inl x))) else one (sAnyI S n st (-32768) 32767)
  | .ladd, .inl (.inr y) :: .inl (.inr x) :: st => one (sPutL P S n st (sAdd x y))
  | .lmul, .inl (.inr y) :: .inl (.inr x) :: st => match isK x, isK y with
    | some a, _ => one (sPutL P S n st (sMul a y))
    | none, some b => one (sPutL P S n st (sMul b x))
    | none, none => one (sAnyL S n st i64l i64h)
  | .land, .inl (.inr _) :: .inl (.inr _) :: st => one (sAnyL S n st i64l i64h)
  | .lor, .inl (.inr _) :: .inl (.inr _) :: st => one (sAnyL S n st i64l i64h)
  | .lshl, .inl (.inl _) :: .inl (.inr _) :: st => one (sAnyL S n st i64l i64h)
  | .lshr, .inl (.inl _) :: .inl (.inr _) :: st => one (sAnyL S n st i64l i64h)
  | .ldiv, .inl (.inr y) :: .inl (.inr x) :: st => match sDiv P S x y with
    | some h => one (sAnyL S n st h.1 h.2)
    | none => none
  | .lrem, .inl (.inr y) :: .inl (.inr x) :: st => match sRem P S x y with
    | some h => one (sAnyL S n st h.1 h.2)
    | none => none
  | .lcmp, .inl (.inr y) :: .inl (.inr x) :: st => match cAt code (S.pc + 1) with
    | some (.ifCond cd off, 3) => okB (sTgtOk (S.pc + 1) off) (some (sBranch P (sGo S S.pc st) (sSub x y) cd (sTgt (S.pc + 1) off) (S.pc + 4)))
    | _ => none
  | .dup, v :: st => okB (Nat.beq (sCat v) 1) (one (n, S.lv, v :: v :: st, S.me, S.iv, S.li, S.nx, S.mm))
  | .dup2, v :: w :: st => okB (Nat.beq (sCat v) 1 && Nat.beq (sCat w) 1) (one (n, S.lv, v :: w :: v :: w :: st, S.me, S.iv, S.li, S.nx, S.mm))
  | .pop, v :: st => okB (Nat.beq (sCat v) 1) (one (sGo S n st))
  | .goto off, st => okB (sTgtOk S.pc off) (one (sGo S (sTgt S.pc off) st))
  | .ifCond cd off, .inl (.inl x) :: st => okB (sTgtOk S.pc off) (some (sBranch P (sGo S S.pc st) x cd (sTgt S.pc off) n))
  | .if_icmp cd off, .inl (.inl y) :: .inl (.inl x) :: st => okB (sTgtOk S.pc off) (some (sBranch P (sGo S S.pc st) (sSub x y) cd (sTgt S.pc off) n))
  | .ifnull off, .inr o :: st => okB (sTgtOk S.pc off) (one (sGo S (match o with | none => sTgt S.pc off | some _ => n) st))
  | .ifnonnull off, .inr o :: st => okB (sTgtOk S.pc off) (one (sGo S (match o with | none => n | some _ => sTgt S.pc off) st))
  | .tableswitch dflt lo hi offs, .inl (.inl x) :: st =>
    okB (sTgtOk S.pc dflt && (offs.toList.all (fun o => sTgtOk S.pc o) && decide ((offs.toList.length : Int) = hi - lo + 1)))
      (some (sSwitch P (sGo S S.pc st) S.pc x lo 0 offs.toList ++ (oList ((sLe P (sGo S S.pc st) (sAdd x (sK (1 - lo)))).map (fun T => sAt T (sTgt S.pc dflt))) ++ oList ((sLe P (sGo S S.pc st) (sAdd (sMul (-1) x) (sK (hi + 1)))).map (fun T => sAt T (sTgt S.pc dflt))))))
  | .getfield i, .inr (some k) :: st => match aFind E.F i, gAt E.G k with
    | some cf, some (.inl (ci, fs)) => if Nat.beq cf.1 ci then (match fs[cf.2.1]? with
      | some (.inl p) => sRdI E S n st p
      | some (.inr j) => one (sPush S n st (.inr (some j)))
      | none => none) else none
    | _, _ => none
  | .putfield i, .inl (.inl l) :: .inr (some k) :: st => match aFind E.F i, gAt E.G k with
    | some cf, some (.inl (ci, fs)) => if Nat.beq cf.1 ci then (match fs[cf.2.1]? with
      | some (.inl p) => okB (Nat.beq cf.2.2 0 || (Nat.beq cf.2.2 1 && sRanged P S l 0 1)) (sWr E S n st p p l)
      | _ => none) else none
    | _, _ => none
  | .iaload, .inl (.inl i) :: .inr (some k) :: st => match gAt E.G k with
    | some (.inr (.inl (0, b, m))) => match sIx E S i m with
      | some (some h) => sRdAI E h.1 n st b m i h.2
      | some none => some []
      | none => none
    | _ => none
  | .baload, .inl (.inl i) :: .inr (some k) :: st => match gAt E.G k with
    | some (.inr (.inl (1, b, m))) => match sIx E S i m with
      | some (some h) => sRdAI E h.1 n st b m i h.2
      | some none => some []
      | none => none
    | some (.inr (.inl (2, b, m))) => match sIx E S i m with
      | some (some h) => sRdAI E h.1 n st b m i h.2
      | some none => some []
      | none => none
    | _ => none
  | .laload, .inl (.inl i) :: .inr (some k) :: st => match gAt E.G k with
    | some (.inr (.inl (3, b, m))) => match sIx E S i m with
      | some (some h) => sRdAL E h.1 n st b m i h.2
      | some none => some []
      | none => none
    | _ => none
  | .iastore, .inl (.inl l) :: .inl (.inl i) :: .inr (some k) :: st => match gAt E.G k with
    | some (.inr (.inl (0, b, m))) => match sIx E S i m with
      | some (some h) => sWr E h.1 n st (b + h.2.1) (b + h.2.2) l
      | some none => some []
      | none => none
    | _ => none
  | .bastore, .inl (.inl l) :: .inl (.inl i) :: .inr (some k) :: st => match gAt E.G k with
    | some (.inr (.inl (1, b, m))) => match sIx E S i m with
      | some (some h) => okB (sRanged P S l (-128) 127) (sWr E h.1 n st (b + h.2.1) (b + h.2.2) l)
      | some none => some []
      | none => none
    | some (.inr (.inl (2, b, m))) => match sIx E S i m with
      | some (some h) => okB (sRanged P S l 0 1) (sWr E h.1 n st (b + h.2.1) (b + h.2.2) l)
      | some none => some []
      | none => none
    | _ => none
  | .lastore, .inl (.inr l) :: .inl (.inl i) :: .inr (some k) :: st => match gAt E.G k with
    | some (.inr (.inl (3, b, m))) => match sIx E S i m with
      | some (some h) => sWr E h.1 n st (b + h.2.1) (b + h.2.2) l
      | some none => some []
      | none => none
    | _ => none
  | .arraylength, .inr (some k) :: st => match gAt E.G k with
    | some g => match glen g with
      | some m => okB (Nat.blt (gkind g) 7 && Nat.blt m 2147483648) (one (sPush S n st (.inl (.inl (sK (m : Int))))))
      | none => none
    | none => none
  | .aaload, .inl (.inl i) :: .inr (some k) :: st => match gAt E.G k with
    | some (.inr (.inr (t, ids))) => match sIx E S i ids.length with
      | some (some h) => okB (Nat.beq t 4 || (Nat.beq t 5 || Nat.beq t 6)) (some (sRefs P (sGo h.1 n st) i 0 ids))
      | some none => some []
      | none => none
    | _ => none
  | _, _ => none
