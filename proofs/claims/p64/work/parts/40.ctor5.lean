/-! CONSTRUCTORS: run by program, one instruction -/
/-- pool of a class: number, kind (0 class, 1 arrays, 2 field, 3 constructor, 4 Object's), two numbers -/
abbrev kPo : Type := List (Nat × Nat × Nat × Nat)
/-- a constructor: name, bytes, listing, pool, cells and slots that it may make -/
abbrev kMe : Type := MethodName × ByteArray × sCode × kPo × Nat × Nat
/-- pc, stack, cells, cells made, slots made -/
abbrev kS : Type := Nat × List gV × List kC × Nat × Nat
def kDv (desc : String) : Option gV := match parseFieldDescriptor desc with
  | some .int => some (gI 0)
  | some .boolean => some (gI 0)
  | some (.object _) => some gN
  | some (.array _) => some gN
  | _ => none
def kDefs (T : u_T) : Nat → Nat → Option (List gV)
  | _, 0 => some []
  | j, n + 1 => match kDv (T j).2.2.1, kDefs T (j + 1) n with
    | some v, some r => some (v :: r)
    | _, _ => none
theorem kDefs_ok {T : u_T} : ∀ (n b : Nat) (fs : List gV), kDefs T b n = some fs → fs.all (vwf 0) = true ∧ ∀ j, j < n → kDv (T (b + j)).2.2.1 = fs[j]?
  | 0, b, fs, e => by
    cases e
    exact ⟨rfl, fun j hj => by omega⟩
  | n + 1, b, fs, e => by
    simp only [kDefs] at e
    split at e
    · rename_i v r e1 e2
      cases e
      obtain ⟨h1, h2⟩ := kDefs_ok n (b + 1) r e2
      refine ⟨?_, fun j hj => ?_⟩
      · rw [List.all_cons, h1, Bool.and_true]
        unfold kDv at e1
        split at e1 <;> cases e1 <;> rfl
      · cases j with
        | zero => exact e1
        | succ j =>
          have := h2 j (by omega)
          rw [show b + (j + 1) = b + 1 + j by omega]
          exact this
    · cases e
theorem kDv_ok {desc : String} {v : gV} {t : FieldType} (h : kDv desc = some v) (ht : parseFieldDescriptor desc = some t) (al : Nat → Nat) : defaultValue t = gc al v := by
  unfold kDv at h
  rw [ht] at h
  split at h
  · rename_i e; cases e; cases h; rfl
  · rename_i e; cases e; cases h; rfl
  · rename_i e; cases e; cases h; rfl
  · rename_i e; cases e; cases h; rfl
  · cases h
theorem kDefs_fs {T : u_T} {N : Nat} {fs : List gV} (h : kDefs T 0 N = some fs) (al : Nat → Nat) (j : Nat) (hj : j < N) (t : FieldType) (ht : parseFieldDescriptor (T j).2.2.1 = some t) : defaultValue t = vp_V (fs.map (gc al)) j := by
  have h1 := (kDefs_ok N 0 fs h).2 j hj
  rw [Nat.zero_add] at h1
  cases e : fs[j]? with
  | none =>
    rw [e] at h1
    unfold kDv at h1
    rw [ht] at h1
    exfalso
    have hl : fs.length = N := by
      have : ∀ (n b : Nat) (fs : List gV), kDefs T b n = some fs → fs.length = n := by
        intro n
        induction n with
        | zero => intro b fs e; cases e; rfl
        | succ n ih =>
          intro b fs e
          simp only [kDefs] at e
          split at e
          · rename_i v r e1 e2
            cases e
            rw [List.length_cons, ih _ _ e2]
          · cases e
      exact this N 0 fs h
    have := List.getElem?_eq_none_iff.mp e
    omega
  | some v =>
    rw [e] at h1
    rw [kDv_ok h1 ht al]
    unfold vp_V
    simp [List.getD, e]
theorem vwf_mono {n m : Nat} (h : n ≤ m) {v : gV} (hv : vwf n v = true) : vwf m v = true := by
  rcases v with (x | x) | (_ | k)
  · rfl
  · rfl
  · rfl
  · simp only [vwf, Nat.blt_eq] at hv ⊢
    omega
def kNew (po : kPo) (n0 k0 mcL msL : Nat) (idx : Nat) (S : kS) : Option kS :=
  match aFind po idx with
  | some (0, ci, _) => match vwCl[ci]? with
    | some (_, T, N) => match kDefs T 0 N with
      | some fs => if S.2.2.1.all (cwf S.2.2.1.length) && (S.2.1.all (vwf S.2.2.1.length) && (Nat.blt k0 S.2.2.1.length && (Nat.ble n0 S.2.2.1.length && (Nat.ble (S.2.2.2.1 + 1) mcL && Nat.ble (S.2.2.2.2 + N) msL)))) then some (S.1 + 3, gR S.2.2.1.length :: S.2.1, S.2.2.1 ++ [.inl (ci, fs)], S.2.2.2.1 + 1, S.2.2.2.2 + N) else none
      | none => none
    | none => none
  | _ => none
def kAt (ty : ArrayType) : Option Nat := match ty with
  | .int => some 0
  | .byte => some 1
  | .boolean => some 2
  | .long => some 3
  | _ => none
def kArr (n0 k0 mcL msL : Nat) (ty : ArrayType) (S : kS) : Option kS :=
  match kAt ty, S.2.1 with
  | some kd, .inl (.inl i) :: st => if decide (¬ i < 0) && (S.2.2.1.all (cwf S.2.2.1.length) && (st.all (vwf S.2.2.1.length) && (Nat.blt k0 S.2.2.1.length && (Nat.ble n0 S.2.2.1.length && (Nat.ble i.toNatClampNeg 60000 && (Nat.ble (S.2.2.2.1 + 1) mcL && Nat.ble (S.2.2.2.2 + i.toNatClampNeg) msL)))))) then some (S.1 + 2, gR S.2.2.1.length :: st, S.2.2.1 ++ [.inr (.inl (kd, List.replicate i.toNatClampNeg 0))], S.2.2.2.1 + 1, S.2.2.2.2 + i.toNatClampNeg) else none
  | _, _ => none
def kAnew (po : kPo) (n0 k0 mcL msL : Nat) (idx : Nat) (S : kS) : Option kS :=
  match aFind po idx, S.2.1 with
  | some (0, ci, kd), .inl (.inl i) :: st => match vwCl[ci]? with
    | some (C, _, _) => if ((Nat.beq kd 4 && decide (C = "TwinVoice$Valley")) || (Nat.beq kd 5 && decide (C = "TwinVoice$Slot"))) && (decide (¬ i < 0) && (S.2.2.1.all (cwf S.2.2.1.length) && (st.all (vwf S.2.2.1.length) && (Nat.blt k0 S.2.2.1.length && (Nat.ble n0 S.2.2.1.length && (Nat.ble i.toNatClampNeg 60000 && (Nat.ble (S.2.2.2.1 + 1) mcL && Nat.ble (S.2.2.2.2 + i.toNatClampNeg) msL))))))) then some (S.1 + 3, gR S.2.2.1.length :: st, S.2.2.1 ++ [.inr (.inr (kd, List.replicate i.toNatClampNeg none))], S.2.2.2.1 + 1, S.2.2.2.2 + i.toNatClampNeg) else none
    | none => none
  | _, _ => none
def kGrid (po : kPo) (n0 k0 mcL msL : Nat) (idx : Nat) (S : kS) : Option kS :=
  match aFind po idx, S.2.1 with
  | some (1, 6, _), .inl (.inl k) :: .inl (.inl n) :: st => if decide (¬ n < 0) && (decide (¬ k < 0) && (S.2.2.1.all (cwf S.2.2.1.length) && (st.all (vwf S.2.2.1.length) && (Nat.blt k0 S.2.2.1.length && (Nat.ble n0 S.2.2.1.length && (Nat.ble n.toNatClampNeg 60000 && (Nat.ble k.toNatClampNeg 60000 && (Nat.ble (S.2.2.2.1 + (1 + n.toNatClampNeg)) mcL && Nat.ble (S.2.2.2.2 + (n.toNatClampNeg + n.toNatClampNeg * k.toNatClampNeg)) msL)))))))) then some (S.1 + 4, gR S.2.2.1.length :: st, S.2.2.1 ++ kRow2 S.2.2.1.length n.toNatClampNeg k.toNatClampNeg, S.2.2.2.1 + 1 + n.toNatClampNeg, S.2.2.2.2 + n.toNatClampNeg + n.toNatClampNeg * k.toNatClampNeg) else none
  | _, _ => none
def kPut (po : kPo) (idx : Nat) (S : kS) : Option kS :=
  match aFind po idx, S.2.1 with
  | some (2, ci, f), v :: .inr (some q) :: st => match vwCl[ci]?, S.2.2.1[q]? with
    | some (_, T, N), some (.inl (ci', fs)) => if Nat.beq ci ci' && (Nat.blt f N && (Nat.blt f fs.length && kFit (T f).2.2.1 v)) then some (S.1 + 3, st, S.2.2.1.set q (.inl (ci, fs.set f v)), S.2.2.2.1, S.2.2.2.2) else none
    | _, _ => none
  | _, _ => none
def kAast (S : kS) : Option kS :=
  match S.2.1 with
  | .inr (some v) :: .inl (.inl i) :: .inr (some q) :: st => match S.2.2.1[q]?, S.2.2.1[v]? with
    | some (.inr (.inr (kd, ids))), some (.inl (ci, _)) => match vwCl[ci]? with
      | some (C, _, _) => if ((Nat.beq kd 4 && decide (C = "TwinVoice$Valley")) || (Nat.beq kd 5 && decide (C = "TwinVoice$Slot"))) && (decide (¬ i < 0) && Nat.blt i.toNatClampNeg ids.length) then some (S.1 + 1, st, S.2.2.1.set q (.inr (.inr (kd, ids.set i.toNatClampNeg (some v)))), S.2.2.2.1, S.2.2.2.2) else none
      | none => none
    | _, _ => none
  | _ => none
def kIast (S : kS) : Option kS :=
  match S.2.1 with
  | .inl (.inl x) :: .inl (.inl i) :: .inr (some q) :: st => match S.2.2.1[q]? with
    | some (.inr (.inl (0, xs))) => if decide (¬ i < 0) && Nat.blt i.toNatClampNeg xs.length then some (S.1 + 1, st, S.2.2.1.set q (.inr (.inl (0, xs.set i.toNatClampNeg x.toInt))), S.2.2.2.1, S.2.2.2.2) else none
    | _ => none
  | _ => none
def kCal (T : List kMe) (call : Nat → Nat → List kC → Option (List kC)) (po : kPo) (n0 k0 mcL msL : Nat) (idx : Nat) (S : kS) : Option kS :=
  match S.2.1 with
  | .inr (some q) :: st => if Nat.ble (st.map gcat).sum 8 then (match aFind po idx with
    | some (4, _, _) => some (S.1 + 3, st, S.2.2.1, S.2.2.2.1, S.2.2.2.2)
    | some (3, mi, _) => match T[mi]?, call mi q S.2.2.1 with
      | some e, some cs' => if st.all (vwf S.2.2.1.length) && (Nat.blt k0 S.2.2.1.length && (Nat.ble n0 S.2.2.1.length && (Nat.ble (S.2.2.2.1 + e.2.2.2.2.1) mcL && Nat.ble (S.2.2.2.2 + e.2.2.2.2.2) msL))) then some (S.1 + 3, st, cs', S.2.2.2.1 + e.2.2.2.2.1, S.2.2.2.2 + e.2.2.2.2.2) else none
      | _, _ => none
    | _ => none) else none
  | _ => none
def kStep (T : List kMe) (call : Nat → Nat → List kC → Option (List kC)) (po : kPo) (n0 k0 mcL msL : Nat) (ins : Instr) (len : Nat) (S : kS) : Option kS :=
  match ins with
  | .aload_n i => if Nat.beq (i : Nat) 0 && Nat.beq len 1 then some (S.1 + 1, gR k0 :: S.2.1, S.2.2) else none
  | .dup => match S.2.1 with
    | v :: st => if Nat.beq (gcat v) 1 && Nat.beq len 1 then some (S.1 + 1, v :: v :: st, S.2.2) else none
    | [] => none
  | .iconst n => if Nat.beq len 1 then some (S.1 + 1, gI (Int32.ofInt n) :: S.2.1, S.2.2) else none
  | .bipush n => if Nat.beq len 2 then some (S.1 + 2, gI ((Int8.ofInt n).toInt32) :: S.2.1, S.2.2) else none
  | .sipush n => if Nat.beq len 3 then some (S.1 + 3, gI ((Int16.ofInt n).toInt32) :: S.2.1, S.2.2) else none
  | .new idx => if Nat.beq len 3 then kNew po n0 k0 mcL msL idx S else none
  | .newarray ty => if Nat.beq len 2 then kArr n0 k0 mcL msL ty S else none
  | .anewarray idx => if Nat.beq len 3 then kAnew po n0 k0 mcL msL idx S else none
  | .multianewarray idx 2 => if Nat.beq len 4 then kGrid po n0 k0 mcL msL idx S else none
  | .putfield idx => if Nat.beq len 3 then kPut po idx S else none
  | .aastore => if Nat.beq len 1 then kAast S else none
  | .iastore => if Nat.beq len 1 then kIast S else none
  | .invokespecial idx => if Nat.beq len 3 then kCal T call po n0 k0 mcL msL idx S else none
  | _ => none
def kRun (T : List kMe) (call : Nat → Nat → List kC → Option (List kC)) (po : kPo) (C : sCode) (n0 k0 mcL msL : Nat) : Nat → kS → Option (List kC)
  | 0, _ => none
  | n + 1, S => match cAt C S.1 with
    | none => none
    | some (.return_, 1) => (match S.2.1 with
      | [] => if Nat.ble S.2.2.2.1 mcL && Nat.ble S.2.2.2.2 msL then some S.2.2.1 else none
      | _ => none)
    | some q => match kStep T call po n0 k0 mcL msL q.1 q.2 S with
      | none => none
      | some S' => kRun T call po C n0 k0 mcL msL n S'
/-- the constructor mi of the table, called on place k0 over the cells cs -/
def kM (T : List kMe) : Nat → Nat → Nat → List kC → Option (List kC)
  | 0, _, _, _ => none
  | d + 1, mi, k0, cs => match T[mi]? with
    | none => none
    | some e => kRun T (kM T d) e.2.2.2.1 e.2.2.1 cs.length k0 e.2.2.2.2.1 e.2.2.2.2.2 400 (0, [], cs, 0, 0)
/-- the words of a pool's row -/
def poOK (own : String) (T : List kMe) (q : Nat × Nat × Nat × Nat) : Bool := match q.2.1 with
  | 0 => (match vwCl[q.2.2.1]? with
    | some (C, _, N) => decide (Jvm.Cond.classLink own q.1 C ∈ TW) && (decide (Jvm.Cond.instantiable C N ∈ TW) && decide (Jvm.Cond.initialized C ∈ TW))
    | none => false)
  | 1 => Nat.beq q.2.2.1 6 && decide (Jvm.Cond.classLink own q.1 "[[I" ∈ TW)
  | 2 => (match vwCl[q.2.2.1]? with
    | some (C, F, _) => decide (own = C) && decide (Jvm.Cond.fieldLink own q.1 C (F q.2.2.2).2.1 (F q.2.2.2).2.2.1 ∈ TW)
    | none => false)
  | 3 => (match T[q.2.2.1]? with
    | some e => decide (Jvm.Cond.code e.1 e.2.1 1 none ∈ TW) && (decide (Jvm.Cond.initialized e.1.cls ∈ TW) && (decide (Jvm.Cond.methodLinkNest own q.1 e.1 "TwinVoice" ∈ gNW) && (decide (Jvm.Cond.instanceMethod e.1 ∈ TW) && (decide (e.1.name = "<init>") && (decide (e.1.cls ≠ "java/lang/invoke/MethodHandle" ∧ e.1.cls ≠ "java/lang/invoke/VarHandle") && decide ((parseMethodDescriptor e.1.desc).map (fun d => d.parameters.length) = some 0))))))
    | none => false)
  | _ => decide (Jvm.Cond.methodLink own q.1 objectInit ∈ TW) && (decide (Jvm.Cond.instanceMethod objectInit ∈ TW) && decide (Jvm.Cond.code objectInit ⟨#[0xb1]⟩ 1 none ∈ TW))
