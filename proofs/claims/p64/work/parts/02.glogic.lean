/-! G: a program logic over a static graph of objects and a flat memory of numbers -/
/-- a value: int, long, reference (an object by its place in the graph) or null -/
abbrev gV : Type := (Int32 ⊕ Int64) ⊕ Option Nat
abbrev gI (x : Int32) : gV := .inl (.inl x)
abbrev gL (x : Int64) : gV := .inl (.inr x)
abbrev gN : gV := .inr none
abbrev gR (k : Nat) : gV := .inr (some k)
def gc (al : Nat → Nat) : gV → Value
  | .inl (.inl x) => .int x
  | .inl (.inr x) => .long x
  | .inr none => .null
  | .inr (some k) => .ref (al k)
def gcat : gV → Nat
  | .inl (.inr _) => 2
  | _ => 1
theorem gc_cat (al : Nat → Nat) (v : gV) : (gc al v).category = gcat v := by
  rcases v with (x | x) | (_ | k) <;> rfl
/-- a cell of the graph: an object (class, fields: a place of the memory, or a reference), an array of numbers (kind 0 int, 1 byte, 2 boolean, 3 long; its first place; its length), an array of references (kind 4, 5 or 6) -/
abbrev gF : Type := Nat ⊕ Nat
abbrev gC : Type := (Nat × List gF) ⊕ ((Nat × Nat × Nat) ⊕ (Nat × List Nat))
abbrev gM : Type := Nat → Int
def gfv (al : Nat → Nat) (mu : gM) : gF → Value
  | .inl p => .int (Int32.ofInt (mu p))
  | .inr k => .ref (al k)
def gcell (al : Nat → Nat) (dA : Nat → ClassId) (mu : gM) : gC → va_E
  | .inl (ci, fs) => .inr (ci, fs.map (gfv al mu))
  | .inr (.inl (k, b, n)) => if k = 3 then .inl (dA k, n, .inr (.inl (fun j => Int64.ofInt (mu (b + j))))) else .inl (dA k, n, .inl (fun j => Int32.ofInt (mu (b + j))))
  | .inr (.inr (k, ids)) => .inl (dA k, ids.length, .inr (.inr (.inr (.inr (fun j => (ids[j]?).map al)))))
def gW (al : Nat → Nat) (dA : Nat → ClassId) (mu : gM) : Nat → List gC → va_W
  | _, [] => []
  | k, g :: r => (al k, gcell al dA mu g) :: gW al dA mu (k + 1) r
theorem gW_at {al : Nat → Nat} {dA : Nat → ClassId} {mu : gM} : ∀ (G : List gC) (b k : Nat), (gW al dA mu b G)[k]? = (G[k]?).map (fun g => (al (b + k), gcell al dA mu g))
  | [], _, _ => rfl
  | g :: r, b, 0 => rfl
  | g :: r, b, k + 1 => by
    show (gW al dA mu (b + 1) r)[k]? = _
    rw [gW_at r (b + 1) k, show b + 1 + k = b + (k + 1) by omega]
    rfl
theorem gW_len {al : Nat → Nat} {dA : Nat → ClassId} {mu : gM} : ∀ (G : List gC) (b : Nat), (gW al dA mu b G).length = G.length
  | [], _ => rfl
  | g :: r, b => by show (gW al dA mu (b + 1) r).length + 1 = r.length + 1; rw [gW_len r]
/-- the places of the memory that a cell has -/
def gown : gC → Nat → Bool
  | .inl (_, fs), p => fs.any (fun f => match f with | .inl q => q == p | .inr _ => false)
  | .inr (.inl (_, b, n)), p => Nat.ble b p && Nat.blt p (b + n)
  | .inr (.inr _), _ => false
def gup (mu : gM) (p : Nat) (v : Int) : gM := fun q => if q = p then v else mu q
theorem gup_s {mu : gM} {p : Nat} {v : Int} : gup mu p v p = v := if_pos rfl
theorem gup_n {mu : gM} {p q : Nat} {v : Int} (h : q ≠ p) : gup mu p v q = mu q := if_neg h
def gtys (dA : Nat → ClassId) : List (ClassId × FieldType) := [(dA 0, .int), (dA 1, .byte), (dA 2, .boolean), (dA 3, .long), (dA 4, .object "TwinVoice$Valley"), (dA 5, .object "TwinVoice$Slot"), (dA 6, .array .int)]
/-- the context of a frame: program, launch, environment, room, state and method at the entry, arguments, frames below, method, code; the goal; bytes, size of locals, own class; addresses, classes, slots, array classes; what may be written; the graph -/
abbrev gX : Type := Program × Launch × Env × Room × State × MethodId × Array Value × List Frame × Method × Code × (State → Prop) × ByteArray × Nat × String × (Nat → Nat) × (Nat → ClassId) × (Nat → Nat → Nat) × (Nat → ClassId) × (Nat → Prop) × List gC
abbrev gXp (X : gX) : Program := X.1
abbrev gXl (X : gX) : Launch := X.2.1
abbrev gXe (X : gX) : Env := X.2.2.1
abbrev gXR (X : gX) : Room := X.2.2.2.1
abbrev gXs (X : gX) : State := X.2.2.2.2.1
abbrev gXm (X : gX) : MethodId := X.2.2.2.2.2.1
abbrev gXa (X : gX) : Array Value := X.2.2.2.2.2.2.1
abbrev gXb (X : gX) : List Frame := X.2.2.2.2.2.2.2.1
abbrev gXh (X : gX) : Method := X.2.2.2.2.2.2.2.2.1
abbrev gXc (X : gX) : Code := X.2.2.2.2.2.2.2.2.2.1
abbrev gXQ (X : gX) : State → Prop := X.2.2.2.2.2.2.2.2.2.2.1
abbrev gXy (X : gX) : ByteArray := X.2.2.2.2.2.2.2.2.2.2.2.1
abbrev gXn (X : gX) : Nat := X.2.2.2.2.2.2.2.2.2.2.2.2.1
abbrev gXo (X : gX) : String := X.2.2.2.2.2.2.2.2.2.2.2.2.2.1
abbrev gXal (X : gX) : Nat → Nat := X.2.2.2.2.2.2.2.2.2.2.2.2.2.2.1
abbrev gXdC (X : gX) : Nat → ClassId := X.2.2.2.2.2.2.2.2.2.2.2.2.2.2.2.1
abbrev gXdI (X : gX) : Nat → Nat → Nat := X.2.2.2.2.2.2.2.2.2.2.2.2.2.2.2.2.1
abbrev gXdA (X : gX) : Nat → ClassId := X.2.2.2.2.2.2.2.2.2.2.2.2.2.2.2.2.2.1
abbrev gXA (X : gX) : Nat → Prop := X.2.2.2.2.2.2.2.2.2.2.2.2.2.2.2.2.2.2.1
abbrev gXG (X : gX) : List gC := X.2.2.2.2.2.2.2.2.2.2.2.2.2.2.2.2.2.2.2
abbrev gWX (X : gX) (mu : gM) : va_W := gW (gXal X) (gXdA X) mu 0 (gXG X)
def gOK (X : gX) : Prop :=
  (gXp X).tables.exec = Jvm.exec ∧ (gXc X).code = gXy X ∧ (gXc X).maxLocals = gXn X ∧ (gXs X).vm.findClass (gXo X) = some (gXm X).cls ∧ (∀ w ∈ TW, w.before (gXa X) (gXs X) = true) ∧ va_K (gXdC X, gXdI X) vwCl (gtys (gXdA X)) (gXs X) ∧ (∀ mu, va_D (gXA X) (gWX X mu))
theorem gOK.x {X : gX} (h : gOK X) : (gXp X).tables.exec = Jvm.exec := h.1
theorem gOK.b {X : gX} (h : gOK X) : (gXc X).code = gXy X := h.2.1
theorem gOK.n {X : gX} (h : gOK X) : (gXc X).maxLocals = gXn X := h.2.2.1
theorem gOK.o {X : gX} (h : gOK X) : (gXs X).vm.findClass (gXo X) = some (gXm X).cls := h.2.2.2.1
theorem gOK.t {X : gX} (h : gOK X) : ∀ w ∈ TW, w.before (gXa X) (gXs X) = true := h.2.2.2.2.1
theorem gOK.k {X : gX} (h : gOK X) : va_K (gXdC X, gXdI X) vwCl (gtys (gXdA X)) (gXs X) := h.2.2.2.2.2.1
theorem gOK.d {X : gX} (h : gOK X) (mu : gM) : va_D (gXA X) (gWX X mu) := h.2.2.2.2.2.2 mu
abbrev gWk (X : gX) (H : Heap) (locs : List Loc) (g : JFrame) : Prop := W (gXp X) (gXl X) (gXe X) (gXR X) (gXs X) (gXm X) (gXa X) (gXb X) (gXh X) (gXc X) H locs 0 0 (gXQ X) g
abbrev gRep (X : gX) (mu : gM) (H : Heap) (locs : List Loc) : Prop := va_P (gXdC X, gXdI X) vwCl (gWX X mu) H ∧ va_S (gXA X) (gXs X).heap H locs
abbrev glv (al : Nat → Nat) (lv : List (Nat × gV)) : List (Nat × Value) := lv.map (fun q => (q.1, gc al q.2))
/-- THE JUDGEMENT: at pc with these locals, this stack, this memory the frame comes to its goal -/
def gG (X : gX) (pc : Nat) (lv : List (Nat × gV)) (st : List gV) (mu : gM) : Prop :=
  ∀ (H : Heap) (locs : List Loc) (ls : Array Slot), gRep X mu H locs → lv_has ls (gXn X) (glv (gXal X) lv) → gWk X H locs (F0 (gXm X) pc ls (st.map (gc (gXal X))))
section GROWS
variable {X : gX} {pc : Nat} {lv : List (Nat × gV)} {st : List gV} {mu : gM}
theorem glv_at {al : Nat → Nat} {ls : Array Slot} {n : Nat} (h : lv_has ls n (glv al lv)) {i : Nat} {v : gV} (hi : (i, v) ∈ lv) : ls[i]? = some (.val (gc al v)) :=
  h.2.2 (i, gc al v) (List.mem_map.mpr ⟨(i, v), hi, rfl⟩)
/-- locals with a value of one slot stored -/
def gst1 (lv : List (Nat × gV)) (i : Nat) (v : gV) : List (Nat × gV) := (i, v) :: lv.filter (fun q => !(q.1 == i) && !(q.1 + 1 == i && gcat q.2 == 2))
def gst2 (lv : List (Nat × gV)) (i : Nat) (v : gV) : List (Nat × gV) := (i, v) :: lv.filter (fun q => !(q.1 == i) && (!(q.1 == i + 1) && !(q.1 + 1 == i && gcat q.2 == 2)))
theorem glv_st1 (al : Nat → Nat) (lv : List (Nat × gV)) (i : Nat) (v : gV) : (i, gc al v) :: (glv al lv).filter (fun q => !(q.1 == i) && !(q.1 + 1 == i && q.2.category == 2)) = glv al (gst1 lv i v) := by
  unfold glv gst1
  rw [List.map_cons, List.filter_map]
  congr 2
  apply List.filter_congr
  intro q _
  simp only [Function.comp, gc_cat]
theorem glv_st2 (al : Nat → Nat) (lv : List (Nat × gV)) (i : Nat) (v : gV) : (i, gc al v) :: (glv al lv).filter (fun q => !(q.1 == i) && (!(q.1 == i + 1) && !(q.1 + 1 == i && q.2.category == 2))) = glv al (gst2 lv i v) := by
  unfold glv gst2
  rw [List.map_cons, List.filter_map]
  congr 2
  apply List.filter_congr
  intro q _
  simp only [Function.comp, gc_cat]
theorem g_iconst (h : gOK X) {n : Int} (hd : decode (gXy X) pc = .ok (.iconst n, 1)) (k : gG X (pc + 1) lv (gI (Int32.ofInt n) :: st) mu) : gG X pc lv st mu :=
  fun H locs ls hR hl => lv_iconst h.x h.b hd rfl (k H locs ls hR hl)
theorem g_bipush (h : gOK X) {n : Int} (hd : decode (gXy X) pc = .ok (.bipush n, 2)) (k : gG X (pc + 2) lv (gI ((Int8.ofInt n).toInt32) :: st) mu) : gG X pc lv st mu :=
  fun H locs ls hR hl => lv_bipush h.x h.b hd rfl (k H locs ls hR hl)
theorem g_sipush (h : gOK X) {n : Int} (hd : decode (gXy X) pc = .ok (.sipush n, 3)) (k : gG X (pc + 3) lv (gI ((Int16.ofInt n).toInt32) :: st) mu) : gG X pc lv st mu :=
  fun H locs ls hR hl => lv_sipush h.x h.b hd rfl (k H locs ls hR hl)
theorem g_lconst (h : gOK X) {n : Fin 2} (hd : decode (gXy X) pc = .ok (.lconst n, 1)) (k : gG X (pc + 1) lv (gL (Int64.ofNat (n : Nat)) :: st) mu) : gG X pc lv st mu :=
  fun H locs ls hR hl => lv_lconst h.x h.b hd rfl (k H locs ls hR hl)
theorem g_iload_n (h : gOK X) {i : Fin 4} {x : Int32} (hd : decode (gXy X) pc = .ok (.iload_n i, 1)) (hi : ((i : Nat), gI x) ∈ lv) (k : gG X (pc + 1) lv (gI x :: st) mu) : gG X pc lv st mu :=
  fun H locs ls hR hl => lv_iload_n h.x h.b hd rfl (glv_at hl hi) (k H locs ls hR hl)
theorem g_iload (h : gOK X) {i : Nat} {x : Int32} (hd : decode (gXy X) pc = .ok (.iload i, 2)) (hi : (i, gI x) ∈ lv) (k : gG X (pc + 2) lv (gI x :: st) mu) : gG X pc lv st mu :=
  fun H locs ls hR hl => lv_iload h.x h.b hd (glv_at hl hi) (k H locs ls hR hl)
theorem g_lload_n (h : gOK X) {i : Fin 4} {x : Int64} (hd : decode (gXy X) pc = .ok (.lload_n i, 1)) (hi : ((i : Nat), gL x) ∈ lv) (k : gG X (pc + 1) lv (gL x :: st) mu) : gG X pc lv st mu :=
  fun H locs ls hR hl => lv_lload_n h.x h.b hd rfl (glv_at hl hi) (k H locs ls hR hl)
theorem g_lload (h : gOK X) {i : Nat} {x : Int64} (hd : decode (gXy X) pc = .ok (.lload i, 2)) (hi : (i, gL x) ∈ lv) (k : gG X (pc + 2) lv (gL x :: st) mu) : gG X pc lv st mu :=
  fun H locs ls hR hl => lv_lload h.x h.b hd (glv_at hl hi) (k H locs ls hR hl)
theorem g_aload_n (h : gOK X) {i : Fin 4} {o : Option Nat} (hd : decode (gXy X) pc = .ok (.aload_n i, 1)) (hi : ((i : Nat), (.inr o : gV)) ∈ lv) (k : gG X (pc + 1) lv (.inr o :: st) mu) : gG X pc lv st mu := by
  intro H locs ls hR hl
  cases o with
  | none => exact lv_aload_nN h.x h.b hd rfl (glv_at hl hi) (k H locs ls hR hl)
  | some x => exact lv_aload_n h.x h.b hd rfl (glv_at hl hi) (k H locs ls hR hl)
theorem g_aload (h : gOK X) {i : Nat} {o : Option Nat} (hd : decode (gXy X) pc = .ok (.aload i, 2)) (hi : (i, (.inr o : gV)) ∈ lv) (k : gG X (pc + 2) lv (.inr o :: st) mu) : gG X pc lv st mu := by
  intro H locs ls hR hl
  cases o with
  | none => exact lv_aloadN h.x h.b hd (glv_at hl hi) (k H locs ls hR hl)
  | some x => exact lv_aload h.x h.b hd (glv_at hl hi) (k H locs ls hR hl)
theorem g_istore_n (h : gOK X) {i : Fin 4} {x : Int32} (hd : decode (gXy X) pc = .ok (.istore_n i, 1)) (hn : (i : Nat) < gXn X) (k : gG X (pc + 1) (gst1 lv i (gI x)) st mu) : gG X pc lv (gI x :: st) mu :=
  fun H locs ls hR hl => lv_istore_n h.x h.b hd rfl hl hn (glv_st1 _ lv i (gI x)) (fun ls' hl' => k H locs ls' hR hl')
theorem g_istore (h : gOK X) {i : Nat} {x : Int32} (hd : decode (gXy X) pc = .ok (.istore i, 2)) (hn : i < gXn X) (k : gG X (pc + 2) (gst1 lv i (gI x)) st mu) : gG X pc lv (gI x :: st) mu :=
  fun H locs ls hR hl => lv_istore h.x h.b hd hl hn (glv_st1 _ lv i (gI x)) (fun ls' hl' => k H locs ls' hR hl')
theorem g_lstore_n (h : gOK X) {i : Fin 4} {x : Int64} (hd : decode (gXy X) pc = .ok (.lstore_n i, 1)) (hn : (i : Nat) + 1 < gXn X) (k : gG X (pc + 1) (gst2 lv i (gL x)) st mu) : gG X pc lv (gL x :: st) mu :=
  fun H locs ls hR hl => lv_lstore_n h.x h.b hd rfl hl hn (glv_st2 _ lv i (gL x)) (fun ls' hl' => k H locs ls' hR hl')
theorem g_lstore (h : gOK X) {i : Nat} {x : Int64} (hd : decode (gXy X) pc = .ok (.lstore i, 2)) (hn : i + 1 < gXn X) (k : gG X (pc + 2) (gst2 lv i (gL x)) st mu) : gG X pc lv (gL x :: st) mu :=
  fun H locs ls hR hl => lv_lstore h.x h.b hd hl hn (glv_st2 _ lv i (gL x)) (fun ls' hl' => k H locs ls' hR hl')
theorem g_astore_n (h : gOK X) {i : Fin 4} {o : Option Nat} (hd : decode (gXy X) pc = .ok (.astore_n i, 1)) (hn : (i : Nat) < gXn X) (k : gG X (pc + 1) (gst1 lv i (.inr o)) st mu) : gG X pc lv (.inr o :: st) mu := by
  intro H locs ls hR hl
  cases o with
  | none => exact lv_astore_nN h.x h.b hd rfl hl hn (glv_st1 _ lv i gN) (fun ls' hl' => k H locs ls' hR hl')
  | some x => exact lv_astore_n h.x h.b hd rfl hl hn (glv_st1 _ lv i (gR x)) (fun ls' hl' => k H locs ls' hR hl')
theorem g_astore (h : gOK X) {i : Nat} {o : Option Nat} (hd : decode (gXy X) pc = .ok (.astore i, 2)) (hn : i < gXn X) (k : gG X (pc + 2) (gst1 lv i (.inr o)) st mu) : gG X pc lv (.inr o :: st) mu := by
  intro H locs ls hR hl
  cases o with
  | none => exact lv_astoreN h.x h.b hd hl hn (glv_st1 _ lv i gN) (fun ls' hl' => k H locs ls' hR hl')
  | some x => exact lv_astore h.x h.b hd hl hn (glv_st1 _ lv i (gR x)) (fun ls' hl' => k H locs ls' hR hl')
theorem g_iinc (h : gOK X) {i : Nat} {n : Int} {x : Int32} (hd : decode (gXy X) pc = .ok (.iinc i n, 3)) (hi : (i, gI x) ∈ lv) (hn : i < gXn X) (k : gG X (pc + 3) (gst1 lv i (gI (x + Int32.ofInt n))) st mu) : gG X pc lv st mu := by
  intro H locs ls hR hl
  obtain ⟨j, hj⟩ := List.mem_iff_getElem?.mp (List.mem_map.mpr ⟨(i, gI x), hi, rfl⟩ : (i, Value.int x) ∈ glv (gXal X) lv)
  exact lv_iinc h.x h.b hd hl (k := j) hj rfl hn (glv_st1 _ lv i (gI (x + Int32.ofInt n))) (fun ls' hl' => k H locs ls' hR hl')
end GROWS
