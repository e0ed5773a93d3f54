/-! G: arithmetic, branches, fields and arrays -/
section GARI
variable {X : gX} {pc : Nat} {lv : List (Nat × gV)} {st : List gV} {mu : gM}
theorem g_null (h : gOK X) (hd : decode (gXy X) pc = .ok (.aconst_null, 1)) (k : gG X (pc + 1) lv (gN :: st) mu) : gG X pc lv st mu :=
  fun H locs ls hR hl => lv_null h.x h.b hd (k H locs ls hR hl)
theorem g_ldc (h : gOK X) {i : Nat} {v : Int32} (hw : Jvm.Cond.constant (gXo X) i v ∈ TW) (hd : decode (gXy X) pc = .ok (.ldc i, 2)) (k : gG X (pc + 2) lv (gI v :: st) mu) : gG X pc lv st mu :=
  fun H locs ls hR hl => lv_ldc h.x h.b h.o (h.t _ hw) hd (k H locs ls hR hl)
theorem g_ldcw (h : gOK X) {i : Nat} {v : Int32} (hw : Jvm.Cond.constant (gXo X) i v ∈ TW) (hd : decode (gXy X) pc = .ok (.ldc_w i, 3)) (k : gG X (pc + 3) lv (gI v :: st) mu) : gG X pc lv st mu :=
  fun H locs ls hR hl => lv_ldcw h.x h.b h.o (h.t _ hw) hd (k H locs ls hR hl)
theorem g_ldc2 (h : gOK X) {i : Nat} {v : Int64} (hw : Jvm.Cond.constantLong (gXo X) i v ∈ TW) (hd : decode (gXy X) pc = .ok (.ldc2_w i, 3)) (k : gG X (pc + 3) lv (gL v :: st) mu) : gG X pc lv st mu :=
  fun H locs ls hR hl => lv_ldc2 h.x h.b h.o (h.t _ hw) hd (k H locs ls hR hl)
theorem g_iadd (h : gOK X) {x y : Int32} (hd : decode (gXy X) pc = .ok (.iadd, 1)) (k : gG X (pc + 1) lv (gI (x + y) :: st) mu) : gG X pc lv (gI y :: gI x :: st) mu :=
  fun H locs ls hR hl => lv_iadd h.x h.b hd (k H locs ls hR hl)
theorem g_isub (h : gOK X) {x y : Int32} (hd : decode (gXy X) pc = .ok (.isub, 1)) (k : gG X (pc + 1) lv (gI (x - y) :: st) mu) : gG X pc lv (gI y :: gI x :: st) mu :=
  fun H locs ls hR hl => lv_isub h.x h.b hd (k H locs ls hR hl)
theorem g_imul (h : gOK X) {x y : Int32} (hd : decode (gXy X) pc = .ok (.imul, 1)) (k : gG X (pc + 1) lv (gI (x * y) :: st) mu) : gG X pc lv (gI y :: gI x :: st) mu :=
  fun H locs ls hR hl => lv_imul h.x h.b hd (k H locs ls hR hl)
theorem g_iand (h : gOK X) {x y : Int32} (hd : decode (gXy X) pc = .ok (.iand, 1)) (k : gG X (pc + 1) lv (gI (x &&& y) :: st) mu) : gG X pc lv (gI y :: gI x :: st) mu :=
  fun H locs ls hR hl => lv_iand h.x h.b hd (k H locs ls hR hl)
theorem g_ior (h : gOK X) {x y : Int32} (hd : decode (gXy X) pc = .ok (.ior, 1)) (k : gG X (pc + 1) lv (gI (x ||| y) :: st) mu) : gG X pc lv (gI y :: gI x :: st) mu :=
  fun H locs ls hR hl => lv_ior h.x h.b hd (k H locs ls hR hl)
theorem g_ixor (h : gOK X) {x y : Int32} (hd : decode (gXy X) pc = .ok (.ixor, 1)) (k : gG X (pc + 1) lv (gI (x ^^^ y) :: st) mu) : gG X pc lv (gI y :: gI x :: st) mu :=
  fun H locs ls hR hl => lv_ixor h.x h.b hd (k H locs ls hR hl)
theorem g_ishl (h : gOK X) {x y : Int32} (hd : decode (gXy X) pc = .ok (.ishl, 1)) (k : gG X (pc + 1) lv (gI (x <<< (y &&& 31)) :: st) mu) : gG X pc lv (gI y :: gI x :: st) mu :=
  fun H locs ls hR hl => lv_ishl h.x h.b hd (k H locs ls hR hl)
theorem g_ishr (h : gOK X) {x y : Int32} (hd : decode (gXy X) pc = .ok (.ishr, 1)) (k : gG X (pc + 1) lv (gI (x >>> (y &&& 31)) :: st) mu) : gG X pc lv (gI y :: gI x :: st) mu :=
  fun H locs ls hR hl => lv_ishr h.x h.b hd (k H locs ls hR hl)
theorem g_iushr (h : gOK X) {x y : Int32} (hd : decode (gXy X) pc = .ok (.iushr, 1)) (k : gG X (pc + 1) lv (gI ((x.toUInt32 >>> (y.toUInt32 &&& Int32.toUInt32 31)).toInt32) :: st) mu) : gG X pc lv (gI y :: gI x :: st) mu :=
  fun H locs ls hR hl => lv_iushr h.x h.b hd rfl (k H locs ls hR hl)
theorem g_idiv (h : gOK X) {x y : Int32} (hd : decode (gXy X) pc = .ok (.idiv, 1)) (hy : ¬ y = 0) (k : gG X (pc + 1) lv (gI (x / y) :: st) mu) : gG X pc lv (gI y :: gI x :: st) mu :=
  fun H locs ls hR hl => lv_idiv h.x h.b hd hy (k H locs ls hR hl)
theorem g_irem (h : gOK X) {x y : Int32} (hd : decode (gXy X) pc = .ok (.irem, 1)) (hy : ¬ y = 0) (k : gG X (pc + 1) lv (gI (x - x / y * y) :: st) mu) : gG X pc lv (gI y :: gI x :: st) mu :=
  fun H locs ls hR hl => lv_irem h.x h.b hd hy (k H locs ls hR hl)
theorem g_ineg (h : gOK X) {x : Int32} (hd : decode (gXy X) pc = .ok (.ineg, 1)) (k : gG X (pc + 1) lv (gI (-x) :: st) mu) : gG X pc lv (gI x :: st) mu :=
  fun H locs ls hR hl => lv_ineg h.x h.b hd (k H locs ls hR hl)
theorem g_ladd (h : gOK X) {x y : Int64} (hd : decode (gXy X) pc = .ok (.ladd, 1)) (k : gG X (pc + 1) lv (gL (x + y) :: st) mu) : gG X pc lv (gL y :: gL x :: st) mu :=
  fun H locs ls hR hl => lv_ladd h.x h.b hd (k H locs ls hR hl)
theorem g_lmul (h : gOK X) {x y : Int64} (hd : decode (gXy X) pc = .ok (.lmul, 1)) (k : gG X (pc + 1) lv (gL (x * y) :: st) mu) : gG X pc lv (gL y :: gL x :: st) mu :=
  fun H locs ls hR hl => lv_lmul h.x h.b hd (k H locs ls hR hl)
theorem g_land (h : gOK X) {x y : Int64} (hd : decode (gXy X) pc = .ok (.land, 1)) (k : gG X (pc + 1) lv (gL (x &&& y) :: st) mu) : gG X pc lv (gL y :: gL x :: st) mu :=
  fun H locs ls hR hl => lv_land h.x h.b hd (k H locs ls hR hl)
theorem g_lor (h : gOK X) {x y : Int64} (hd : decode (gXy X) pc = .ok (.lor, 1)) (k : gG X (pc + 1) lv (gL (x ||| y) :: st) mu) : gG X pc lv (gL y :: gL x :: st) mu :=
  fun H locs ls hR hl => lv_lor h.x h.b hd (k H locs ls hR hl)
theorem g_ldiv (h : gOK X) {x y : Int64} (hd : decode (gXy X) pc = .ok (.ldiv, 1)) (hy : ¬ y = 0) (k : gG X (pc + 1) lv (gL (x / y) :: st) mu) : gG X pc lv (gL y :: gL x :: st) mu :=
  fun H locs ls hR hl => lv_ldiv h.x h.b hd hy (k H locs ls hR hl)
theorem g_lrem (h : gOK X) {x y : Int64} (hd : decode (gXy X) pc = .ok (.lrem, 1)) (hy : ¬ y = 0) (k : gG X (pc + 1) lv (gL (x - x / y * y) :: st) mu) : gG X pc lv (gL y :: gL x :: st) mu :=
  fun H locs ls hR hl => lv_lrem h.x h.b hd hy (k H locs ls hR hl)
theorem g_lshl (h : gOK X) {x : Int64} {y : Int32} (hd : decode (gXy X) pc = .ok (.lshl, 1)) (k : gG X (pc + 1) lv (gL (x <<< (y.toInt64 &&& 63)) :: st) mu) : gG X pc lv (gI y :: gL x :: st) mu :=
  fun H locs ls hR hl => lv_lshl h.x h.b hd rfl (k H locs ls hR hl)
theorem g_lshr (h : gOK X) {x : Int64} {y : Int32} (hd : decode (gXy X) pc = .ok (.lshr, 1)) (k : gG X (pc + 1) lv (gL (x >>> (y.toInt64 &&& 63)) :: st) mu) : gG X pc lv (gI y :: gL x :: st) mu :=
  fun H locs ls hR hl => lv_lshr h.x h.b hd rfl (k H locs ls hR hl)
theorem g_lcmp (h : gOK X) {x y : Int64} (hd : decode (gXy X) pc = .ok (.lcmp, 1)) (k : gG X (pc + 1) lv (gI (lg_cmp x y) :: st) mu) : gG X pc lv (gL y :: gL x :: st) mu :=
  fun H locs ls hR hl => W.lcmp h.x h.b hd (k H locs ls hR hl)
theorem g_i2l (h : gOK X) {x : Int32} (hd : decode (gXy X) pc = .ok (.i2l, 1)) (k : gG X (pc + 1) lv (gL x.toInt64 :: st) mu) : gG X pc lv (gI x :: st) mu :=
  fun H locs ls hR hl => lv_i2l h.x h.b hd rfl (k H locs ls hR hl)
theorem g_l2i (h : gOK X) {x : Int64} (hd : decode (gXy X) pc = .ok (.l2i, 1)) (k : gG X (pc + 1) lv (gI x.toInt32 :: st) mu) : gG X pc lv (gL x :: st) mu :=
  fun H locs ls hR hl => lv_l2i h.x h.b hd rfl (k H locs ls hR hl)
theorem g_i2b (h : gOK X) {x : Int32} (hd : decode (gXy X) pc = .ok (.i2b, 1)) (k : gG X (pc + 1) lv (gI x.toInt8.toInt32 :: st) mu) : gG X pc lv (gI x :: st) mu :=
  fun H locs ls hR hl => lv_i2b h.x h.b hd rfl (k H locs ls hR hl)
theorem g_i2s (h : gOK X) {x : Int32} (hd : decode (gXy X) pc = .ok (.i2s, 1)) (k : gG X (pc + 1) lv (gI x.toInt16.toInt32 :: st) mu) : gG X pc lv (gI x :: st) mu :=
  fun H locs ls hR hl => lv_i2s h.x h.b hd rfl (k H locs ls hR hl)
theorem g_dup (h : gOK X) {v : gV} (hd : decode (gXy X) pc = .ok (.dup, 1)) (hc : gcat v = 1) (k : gG X (pc + 1) lv (v :: v :: st) mu) : gG X pc lv (v :: st) mu :=
  fun H locs ls hR hl => lv_dup h.x h.b hd (by rw [gc_cat]; exact hc) (k H locs ls hR hl)
theorem g_dup2 (h : gOK X) {v w : gV} (hd : decode (gXy X) pc = .ok (.dup2, 1)) (hc : gcat v = 1) (hw : gcat w = 1) (k : gG X (pc + 1) lv (v :: w :: v :: w :: st) mu) : gG X pc lv (v :: w :: st) mu :=
  fun H locs ls hR hl => lv_dup2_11 h.x h.b hd (by rw [gc_cat]; exact hc) (by rw [gc_cat]; exact hw) (k H locs ls hR hl)
theorem g_pop (h : gOK X) {v : gV} (hd : decode (gXy X) pc = .ok (.pop, 1)) (hc : gcat v = 1) (k : gG X (pc + 1) lv st mu) : gG X pc lv (v :: st) mu :=
  fun H locs ls hR hl => lv_pop h.x h.b hd (by rw [gc_cat]; exact hc) (k H locs ls hR hl)
theorem g_goto (h : gOK X) {off : Int} {tgt : Nat} (hd : decode (gXy X) pc = .ok (.goto off, 3)) (ht : (pc : Int) + off = (tgt : Int)) (k : gG X tgt lv st mu) : gG X pc lv st mu :=
  fun H locs ls hR hl => lv_goto h.x h.b hd ht (k H locs ls hR hl)
/-- what a condition says of two ints -/
def gcond : Jvm.ClassFile.Cond → Int32 → Int32 → Prop
  | .eq, x, y => x = y
  | .ne, x, y => ¬ x = y
  | .lt, x, y => x < y
  | .ge, x, y => y ≤ x
  | .gt, x, y => y < x
  | .le, x, y => x ≤ y
theorem g_if (h : gOK X) {cd : Jvm.ClassFile.Cond} {x : Int32} {off : Int} {tgt : Nat} (hd : decode (gXy X) pc = .ok (.ifCond cd off, 3)) (ht : (pc : Int) + off = (tgt : Int)) (kt : gcond cd x 0 → gG X tgt lv st mu) (kf : ¬ gcond cd x 0 → gG X (pc + 3) lv st mu) : gG X pc lv (gI x :: st) mu := by
  intro H locs ls hR hl
  cases cd with
  | eq => exact lv_if_eq h.x h.b hd ht (fun q => kt q H locs ls hR hl) (fun q => kf q H locs ls hR hl)
  | ne => exact lv_if_ne h.x h.b hd ht (fun q => kt q H locs ls hR hl) (fun q => kf (fun z => z q) H locs ls hR hl)
  | lt => exact lv_if_lt h.x h.b hd ht (fun q => kt q H locs ls hR hl) (fun q => kf q H locs ls hR hl)
  | ge => exact lv_if_ge h.x h.b hd ht (fun q => kt q H locs ls hR hl) (fun q => kf q H locs ls hR hl)
  | gt => exact lv_if_gt h.x h.b hd ht (fun q => kt q H locs ls hR hl) (fun q => kf q H locs ls hR hl)
  | le => exact lv_if_le h.x h.b hd ht (fun q => kt q H locs ls hR hl) (fun q => kf q H locs ls hR hl)
theorem g_icmp (h : gOK X) {cd : Jvm.ClassFile.Cond} {x y : Int32} {off : Int} {tgt : Nat} (hd : decode (gXy X) pc = .ok (.if_icmp cd off, 3)) (ht : (pc : Int) + off = (tgt : Int)) (kt : gcond cd x y → gG X tgt lv st mu) (kf : ¬ gcond cd x y → gG X (pc + 3) lv st mu) : gG X pc lv (gI y :: gI x :: st) mu := by
  intro H locs ls hR hl
  cases cd with
  | eq => exact lv_icmp_eq h.x h.b hd ht (fun q => kt q H locs ls hR hl) (fun q => kf q H locs ls hR hl)
  | ne => exact lv_icmp_ne h.x h.b hd ht (fun q => kt q H locs ls hR hl) (fun q => kf (fun z => z q) H locs ls hR hl)
  | lt => exact lv_icmp_lt h.x h.b hd ht (fun q => kt q H locs ls hR hl) (fun q => kf q H locs ls hR hl)
  | ge => exact lv_icmp_ge h.x h.b hd ht (fun q => kt q H locs ls hR hl) (fun q => kf q H locs ls hR hl)
  | gt => exact lv_icmp_gt h.x h.b hd ht (fun q => kt q H locs ls hR hl) (fun q => kf q H locs ls hR hl)
  | le => exact lv_icmp_le h.x h.b hd ht (fun q => kt q H locs ls hR hl) (fun q => kf q H locs ls hR hl)
theorem g_ifnull (h : gOK X) {o : Option Nat} {off : Int} {tgt : Nat} (hd : decode (gXy X) pc = .ok (.ifnull off, 3)) (ht : (pc : Int) + off = (tgt : Int)) (k : gG X (match o with | none => tgt | some _ => pc + 3) lv st mu) : gG X pc lv (.inr o :: st) mu := by
  intro H locs ls hR hl
  cases o with
  | none => exact lv_ifnullN h.x h.b hd ht (k H locs ls hR hl)
  | some x => exact lv_ifnull h.x h.b hd (k H locs ls hR hl)
theorem g_ifnonnull (h : gOK X) {o : Option Nat} {off : Int} {tgt : Nat} (hd : decode (gXy X) pc = .ok (.ifnonnull off, 3)) (ht : (pc : Int) + off = (tgt : Int)) (k : gG X (match o with | none => pc + 3 | some _ => tgt) lv st mu) : gG X pc lv (.inr o :: st) mu := by
  intro H locs ls hR hl
  cases o with
  | none => exact lv_ifnonnullN h.x h.b hd (k H locs ls hR hl)
  | some x => exact lv_ifnonnull h.x h.b hd ht (k H locs ls hR hl)
theorem g_tabOut (h : gOK X) {x : Int32} {dflt lo hi : Int} {offs : Array Int} {len tgt : Nat} (hd : decode (gXy X) pc = .ok (.tableswitch dflt lo hi offs, len)) (hx : x.toInt < lo ∨ hi < x.toInt) (ht : (pc : Int) + dflt = (tgt : Int)) (k : gG X tgt lv st mu) : gG X pc lv (gI x :: st) mu :=
  fun H locs ls hR hl => lv_tableOut h.x h.b hd hx ht (k H locs ls hR hl)
theorem g_tabIn (h : gOK X) {x : Int32} {dflt lo hi off : Int} {offs : Array Int} {len tgt : Nat} (hd : decode (gXy X) pc = .ok (.tableswitch dflt lo hi offs, len)) (h1 : ¬ x.toInt < lo) (h2 : ¬ hi < x.toInt) (ho : offs[(x.toInt - lo).toNat]? = some off) (ht : (pc : Int) + off = (tgt : Int)) (k : gG X tgt lv st mu) : gG X pc lv (gI x :: st) mu :=
  fun H locs ls hR hl => lv_tableIn h.x h.b hd h1 h2 ho ht (k H locs ls hR hl)
end GARI
/-! the layout of the graph: places of cells in order, none twice -/
def gfields : Nat → List gF → Option Nat
  | b, [] => some b
  | b, .inl q :: r => if b ≤ q then gfields (q + 1) r else none
  | b, .inr _ :: r => gfields b r
def gnext : Nat → gC → Option Nat
  | b, .inl (_, fs) => gfields b fs
  | b, .inr (.inl (_, c, n)) => if b ≤ c then some (c + n) else none
  | b, .inr (.inr _) => some b
def glay : Nat → List gC → Bool
  | _, [] => true
  | b, g :: r => match gnext b g with | some b' => glay b' r | none => false
theorem gfields_le : ∀ (fs : List gF) (b b' : Nat), gfields b fs = some b' → b ≤ b' ∧ ∀ (i q : Nat), fs[i]? = some (.inl q) → b ≤ q ∧ q < b'
  | [], b, b', h => by
    simp only [gfields, Option.some.injEq] at h
    exact ⟨by omega, fun i q hq => by simp at hq⟩
  | .inl q0 :: r, b, b', h => by
    simp only [gfields] at h
    by_cases c : b ≤ q0
    · rw [if_pos c] at h
      obtain ⟨h1, h2⟩ := gfields_le r _ _ h
      refine ⟨by omega, fun i q hq => ?_⟩
      cases i with
      | zero =>
        simp only [List.getElem?_cons_zero, Option.some.injEq, Sum.inl.injEq] at hq
        omega
      | succ i =>
        rw [List.getElem?_cons_succ] at hq
        have := h2 i q hq
        omega
    · rw [if_neg c] at h
      cases h
  | .inr q0 :: r, b, b', h => by
    simp only [gfields] at h
    obtain ⟨h1, h2⟩ := gfields_le r _ _ h
    refine ⟨h1, fun i q hq => ?_⟩
    cases i with
    | zero => simp at hq
    | succ i =>
      rw [List.getElem?_cons_succ] at hq
      exact h2 i q hq
theorem gfields_inj : ∀ (fs : List gF) (b b' : Nat), gfields b fs = some b' → ∀ (i j q : Nat), fs[i]? = some (.inl q) → fs[j]? = some (.inl q) → i = j
  | [], b, b', h, i, j, q, hi, hj => by simp at hi
  | .inl q0 :: r, b, b', h, i, j, q, hi, hj => by
    simp only [gfields] at h
    by_cases c : b ≤ q0
    · rw [if_pos c] at h
      have h2 := (gfields_le r _ _ h).2
      cases i with
      | zero =>
        cases j with
        | zero => rfl
        | succ j =>
          simp only [List.getElem?_cons_zero, Option.some.injEq, Sum.inl.injEq] at hi
          rw [List.getElem?_cons_succ] at hj
          have := h2 j q hj
          omega
      | succ i =>
        rw [List.getElem?_cons_succ] at hi
        cases j with
        | zero =>
          simp only [List.getElem?_cons_zero, Option.some.injEq, Sum.inl.injEq] at hj
          have := h2 i q hi
          omega
        | succ j =>
          rw [List.getElem?_cons_succ] at hj
          rw [gfields_inj r _ _ h i j q hi hj]
    · rw [if_neg c] at h
      cases h
  | .inr q0 :: r, b, b', h, i, j, q, hi, hj => by
    simp only [gfields] at h
    cases i with
    | zero => simp at hi
    | succ i =>
      cases j with
      | zero => simp at hj
      | succ j =>
        rw [List.getElem?_cons_succ] at hi hj
        rw [gfields_inj r _ _ h i j q hi hj]
theorem gown_obj {ci : Nat} {fs : List gF} {p : Nat} (h : gown (.inl (ci, fs)) p = true) : ∃ i : Nat, fs[i]? = some (.inl p) := by
  simp only [gown, List.any_eq_true] at h
  obtain ⟨f, hf, hp⟩ := h
  obtain ⟨i, hi⟩ := List.mem_iff_getElem?.mp hf
  rcases f with q | q
  · simp only [beq_iff_eq] at hp
    subst hp
    exact ⟨i, hi⟩
  · cases hp
theorem gnext_le {b b' : Nat} {g : gC} (h : gnext b g = some b') : b ≤ b' ∧ ∀ p, gown g p = true → b ≤ p ∧ p < b' := by
  rcases g with ⟨ci, fs⟩ | ⟨k, c, n⟩ | ⟨k, ids⟩
  · obtain ⟨h1, h2⟩ := gfields_le fs b b' h
    refine ⟨h1, fun p hp => ?_⟩
    obtain ⟨i, hi⟩ := gown_obj hp
    exact h2 i p hi
  · simp only [gnext] at h
    by_cases q : b ≤ c
    · rw [if_pos q] at h
      simp only [Option.some.injEq] at h
      refine ⟨by omega, fun p hp => ?_⟩
      simp only [gown, Bool.and_eq_true, Nat.ble_eq, Nat.blt_eq] at hp
      omega
    · rw [if_neg q] at h
      cases h
  · simp only [gnext, Option.some.injEq] at h
    exact ⟨by omega, fun p hp => by simp [gown] at hp⟩
theorem glay_ge : ∀ (G : List gC) (b : Nat), glay b G = true → ∀ (k : Nat) (g : gC) (p : Nat), G[k]? = some g → gown g p = true → b ≤ p
  | [], _, _, k, g, p, hk, _ => by simp at hk
  | g0 :: r, b, h, k, g, p, hk, hp => by
    simp only [glay] at h
    cases e : gnext b g0 with
    | none => rw [e] at h; cases h
    | some b' =>
      rw [e] at h
      obtain ⟨h1, h2⟩ := gnext_le e
      cases k with
      | zero =>
        simp only [List.getElem?_cons_zero, Option.some.injEq] at hk
        subst hk
        exact (h2 p hp).1
      | succ k =>
        rw [List.getElem?_cons_succ] at hk
        have := glay_ge r b' h k g p hk hp
        omega
theorem glay_one : ∀ (G : List gC) (b : Nat), glay b G = true → ∀ (j k : Nat) (g g' : gC) (p : Nat), G[j]? = some g → G[k]? = some g' → gown g p = true → gown g' p = true → j = k
  | [], _, _, j, k, g, g', p, hj, _, _, _ => by simp at hj
  | g0 :: r, b, h, j, k, g, g', p, hj, hk, hp, hp' => by
    simp only [glay] at h
    cases e : gnext b g0 with
    | none => rw [e] at h; cases h
    | some b' =>
      rw [e] at h
      obtain ⟨h1, h2⟩ := gnext_le e
      cases j with
      | zero =>
        cases k with
        | zero => rfl
        | succ k =>
          simp only [List.getElem?_cons_zero, Option.some.injEq] at hj
          subst hj
          rw [List.getElem?_cons_succ] at hk
          have a1 := h2 p hp
          have a2 := glay_ge r b' h k g' p hk hp'
          omega
      | succ j =>
        rw [List.getElem?_cons_succ] at hj
        cases k with
        | zero =>
          simp only [List.getElem?_cons_zero, Option.some.injEq] at hk
          subst hk
          have a1 := h2 p hp'
          have a2 := glay_ge r b' h j g p hj hp
          omega
        | succ k =>
          rw [List.getElem?_cons_succ] at hk
          rw [glay_one r b' h j k g g' p hj hk hp hp']
theorem glay_fields : ∀ (G : List gC) (b : Nat), glay b G = true → ∀ (k ci : Nat) (fs : List gF), G[k]? = some (.inl (ci, fs)) → ∃ b0 b1, gfields b0 fs = some b1
  | [], _, _, k, ci, fs, hk => by simp at hk
  | g0 :: r, b, h, k, ci, fs, hk => by
    simp only [glay] at h
    cases e : gnext b g0 with
    | none => rw [e] at h; cases h
    | some b' =>
      rw [e] at h
      cases k with
      | zero =>
        simp only [List.getElem?_cons_zero, Option.some.injEq] at hk
        subst hk
        exact ⟨b, b', e⟩
      | succ k =>
        rw [List.getElem?_cons_succ] at hk
        exact glay_fields r b' h k ci fs hk
theorem garr_eq {c : ClassId} {n : Nat} {f f' : Nat → Value} (h : ∀ j, j < n → f' j = f j) : arrV c n f' = arrV c n f := by
  unfold arrV
  congr 1
  apply Array.ext
  · simp
  · intro i h1 h2
    simp only [Array.getElem_ofFn]
    exact h i (by simpa using h1)
/-- a cell of the machine as the graph and the memory have it, when its own places stay -/
theorem gat_up {D : va_G} {cl : List vw_C} {al : Nat → Nat} {dA : Nat → ClassId} {mu mu' : gM} {g : gC} {a : Nat} {H : Heap} (h : ∀ p, gown g p = true → mu' p = mu p) (hP : va_at D cl (a, gcell al dA mu g) H) : va_at D cl (a, gcell al dA mu' g) H := by
  rcases g with ⟨ci, fs⟩ | ⟨k, c, n⟩ | ⟨k, ids⟩
  · have e : gcell al dA mu' (.inl (ci, fs)) = gcell al dA mu (.inl (ci, fs)) := by
      simp only [gcell]
      congr 2
      apply List.map_congr_left
      intro f hf
      rcases f with q | q
      · simp only [gfv]
        rw [h q]
        simp only [gown, List.any_eq_true]
        exact ⟨.inl q, hf, by simp⟩
      · rfl
    rw [e]
    exact hP
  · have hj : ∀ j, j < n → mu' (c + j) = mu (c + j) := fun j hj => h _ (by simp only [gown, Bool.and_eq_true, Nat.ble_eq, Nat.blt_eq]; omega)
    simp only [gcell] at hP ⊢
    by_cases hk : k = 3
    · rw [if_pos hk] at hP ⊢
      simp only [va_at, vp_cell] at hP ⊢
      rw [hP, garr_eq (f' := fun j => Value.long (Int64.ofInt (mu' (c + j)))) (f := fun j => Value.long (Int64.ofInt (mu (c + j)))) (fun j h1 => by rw [hj j h1])]
    · rw [if_neg hk] at hP ⊢
      simp only [va_at, vp_cell] at hP ⊢
      rw [hP, garr_eq (f' := fun j => Value.int (Int32.ofInt (mu' (c + j)))) (f := fun j => Value.int (Int32.ofInt (mu (c + j)))) (fun j h1 => by rw [hj j h1])]
  · exact hP
theorem gput {D : va_G} {cl : List vw_C} {al : Nat → Nat} {dA : Nat → ClassId} {G : List gC} {mu : gM} {H1 : Heap} (hl : glay 0 G = true) {k p : Nat} {v : Int} {g : gC} (hk : G[k]? = some g) (hp : gown g p = true) {e1 : va_E} (hP1 : va_P D cl ((gW al dA mu 0 G).set k (al k, e1)) H1)
    (he : va_at D cl (al k, e1) H1 → va_at D cl (al k, gcell al dA (gup mu p v) g) H1) : va_P D cl (gW al dA (gup mu p v) 0 G) H1 := by
  intro j q hq
  rw [gW_at] at hq
  cases hj : G[j]? with
  | none => rw [hj] at hq; cases hq
  | some gj =>
    rw [hj] at hq
    simp only [Option.map_some, Option.some.injEq, Nat.zero_add] at hq
    subst hq
    by_cases hjk : j = k
    · subst hjk
      cases hj.symm.trans hk
      apply he
      refine hP1 j _ ?_
      rw [List.getElem?_set_self]
      rw [gW_len]
      exact (List.getElem?_eq_some_iff.mp hj).1
    · have h1 : va_at D cl (al j, gcell al dA mu gj) H1 := by
        refine hP1 j _ ?_
        rw [List.getElem?_set_ne (fun q => hjk q.symm), gW_at, hj]
        simp
      refine gat_up (fun p' hp' => gup_n (fun e => ?_)) h1
      subst e
      exact hjk (glay_one G 0 hl j k gj g p' hj hk hp' hp)
/-! fields and arrays -/
section GHEAP
variable {X : gX} {pc : Nat} {lv : List (Nat × gV)} {st : List gV} {mu : gM}
theorem gWX_at {k : Nat} {g : gC} (hk : (gXG X)[k]? = some g) (mu : gM) : (gWX X mu)[k]? = some (gXal X k, gcell (gXal X) (gXdA X) mu g) := by
  rw [gW_at, hk]
  simp
/-- the words of a class's fields are there -/
def gcls (ci : Nat) (C : String) (T : u_T) (N : Nat) : Prop := vwCl[ci]? = some (C, T, N) ∧ (∀ w ∈ u_ws C T N, w ∈ TW) ∧ (∀ k, k < N → (T k).1 = C) ∧ (∀ a, a < N → ∀ b, b < N → a ≠ b → (T a).2.1 ≠ (T b).2.1) ∧ ∃ ty0 : Nat → FieldType, ∀ k, k < N → parseFieldDescriptor (T k).2.2.1 = some (ty0 k)
theorem g_getfield (h : gOK X) {ci k f idx N : Nat} {C : String} {T : u_T} {fs : List gF} {z : gF} (hc : gcls ci C T N) (hf : f < N) (hk : (gXG X)[k]? = some (.inl (ci, fs))) (hz : fs[f]? = some z) (hw : Jvm.Cond.fieldLink (gXo X) idx C (T f).2.1 (T f).2.2.1 ∈ TW)
    (hd : decode (gXy X) pc = .ok (.getfield idx, 3)) (kk : gG X (pc + 3) lv ((match z with | .inl p => gI (Int32.ofInt (mu p)) | .inr j => gR j) :: st) mu) : gG X pc lv (gR k :: st) mu := by
  intro H locs ls hR hl
  have hv : (fs.map (gfv (gXal X) mu))[f]? = some (gfv (gXal X) mu z) := by rw [List.getElem?_map, hz]; rfl
  refine va_get (ref := C) h.x h.b h.t hc.2.1 h.o h.k hR.1 k (gWX_at hk mu) hc.1 f hf (h.t _ hw) (fun x q => by rw [hc.2.2.1 f hf] at q; exact q) hv hd ?_
  have h2 := kk H locs ls hR hl
  rcases z with p | j
  · exact h2
  · exact h2
theorem g_putfield (h : gOK X) (hlay : glay 0 (gXG X) = true) {ci k f idx N p : Nat} {C : String} {T : u_T} {fs : List gF} {x : Int32} {ty : FieldType} (hc : gcls ci C T N) (hf : f < N) (hk : (gXG X)[k]? = some (.inl (ci, fs))) (hz : fs[f]? = some (.inl p)) (hw : Jvm.Cond.fieldLink (gXo X) idx C (T f).2.1 (T f).2.2.1 ∈ TW) (hfin : (T f).2.2.2 = false)
    (hty : parseFieldDescriptor (T f).2.2.1 = some ty) (hn : narrow ty (.int x) = .int x) (hfit : fits ty (.int x) = true)
    (hd : decode (gXy X) pc = .ok (.putfield idx, 3)) (kk : gG X (pc + 3) lv st (gup mu p x.toInt)) : gG X pc lv (gI x :: gR k :: st) mu := by
  intro H locs ls hR hl
  obtain ⟨ty0, hty0⟩ := hc.2.2.2.2
  have hp : gown (.inl (ci, fs)) p = true := by
    simp only [gown, List.any_eq_true]
    exact ⟨.inl p, List.mem_of_getElem? hz, by simp⟩
  refine va_put (ref := C) h.x h.b h.t hc.2.1 ty0 hty0 hc.2.2.2.1 h.o h.k hR.1 (h.d mu) hR.2 k (gWX_at hk mu) hc.1 f hf (h.t _ hw) (fun x q => by rw [hc.2.2.1 f hf] at q; exact q) hfin hty hn hfit (by rw [List.length_map]; exact (List.getElem?_eq_some_iff.mp hz).1) hd (fun H1 locs1 hP1 hD1 hS1 => ?_)
  refine kk H1 locs1 ls ⟨gput hlay hk hp hP1 (fun hat => ?_), hS1⟩ hl
  have e : (fs.map (gfv (gXal X) mu)).set f (.int x) = fs.map (gfv (gXal X) (gup mu p x.toInt)) := by
    apply List.ext_getElem?
    intro i
    by_cases hi : i = f
    · subst hi
      rw [List.getElem?_set_self (by rw [List.length_map]; exact (List.getElem?_eq_some_iff.mp hz).1), List.getElem?_map, hz]
      simp [gfv, gup_s]
    · rw [List.getElem?_set_ne (fun q => hi q.symm), List.getElem?_map, List.getElem?_map]
      cases hfi : fs[i]? with
      | none => rfl
      | some z =>
        rcases z with q | q
        · simp only [Option.map_some, gfv]
          rw [gup_n]
          intro e
          subst e
          obtain ⟨b0, b1, hb⟩ := glay_fields (gXG X) 0 hlay k ci fs hk
          exact hi (gfields_inj fs b0 b1 hb i f q hfi hz)
        · rfl
  simp only [gcell]
  rw [← e]
  exact hat
def gty : Nat → FieldType
  | 0 => .int
  | 1 => .byte
  | 2 => .boolean
  | 3 => .long
  | 4 => .object "TwinVoice$Valley"
  | 5 => .object "TwinVoice$Slot"
  | _ => .array .int
theorem gtys_at (dA : Nat → ClassId) {k : Nat} (hk : k < 7) : (gtys dA)[k]? = some (dA k, gty k) := by
  have : k = 0 ∨ k = 1 ∨ k = 2 ∨ k = 3 ∨ k = 4 ∨ k = 5 ∨ k = 6 := by omega
  rcases this with rfl | rfl | rfl | rfl | rfl | rfl | rfl <;> rfl
theorem g_iaload (h : gOK X) {k b n : Nat} {i : Int32} (hk : (gXG X)[k]? = some (.inr (.inl (0, b, n)))) (hi : vp_in i n) (hd : decode (gXy X) pc = .ok (.iaload, 1)) (kk : gG X (pc + 1) lv (gI (Int32.ofInt (mu (b + i.toNatClampNeg))) :: st) mu) : gG X pc lv (gI i :: gR k :: st) mu :=
  fun H locs ls hR hl => va_iald h.x h.b h.k hR.1 k 0 (gWX_at hk mu) (gtys_at _ (by decide)) hi hd (kk H locs ls hR hl)
theorem g_baload (h : gOK X) {k b n : Nat} {i : Int32} (hk : (gXG X)[k]? = some (.inr (.inl (1, b, n)))) (hi : vp_in i n) (hd : decode (gXy X) pc = .ok (.baload, 1)) (kk : gG X (pc + 1) lv (gI (Int32.ofInt (mu (b + i.toNatClampNeg))) :: st) mu) : gG X pc lv (gI i :: gR k :: st) mu :=
  fun H locs ls hR hl => va_bald h.x h.b h.k hR.1 k 1 (gWX_at hk mu) (gtys_at _ (by decide)) hi hd (kk H locs ls hR hl)
theorem g_zaload (h : gOK X) {k b n : Nat} {i : Int32} (hk : (gXG X)[k]? = some (.inr (.inl (2, b, n)))) (hi : vp_in i n) (hd : decode (gXy X) pc = .ok (.baload, 1)) (kk : gG X (pc + 1) lv (gI (Int32.ofInt (mu (b + i.toNatClampNeg))) :: st) mu) : gG X pc lv (gI i :: gR k :: st) mu :=
  fun H locs ls hR hl => va_zald h.x h.b h.k hR.1 k 2 (gWX_at hk mu) (gtys_at _ (by decide)) hi hd (kk H locs ls hR hl)
theorem g_laload (h : gOK X) {k b n : Nat} {i : Int32} (hk : (gXG X)[k]? = some (.inr (.inl (3, b, n)))) (hi : vp_in i n) (hd : decode (gXy X) pc = .ok (.laload, 1)) (kk : gG X (pc + 1) lv (gL (Int64.ofInt (mu (b + i.toNatClampNeg))) :: st) mu) : gG X pc lv (gI i :: gR k :: st) mu :=
  fun H locs ls hR hl => va_lald h.x h.b h.k hR.1 k 3 (gWX_at hk mu) (gtys_at _ (by decide)) hi hd (kk H locs ls hR hl)
theorem g_aaload (h : gOK X) {k t : Nat} {ids : List Nat} {i : Int32} {o : Nat} (hk : (gXG X)[k]? = some (.inr (.inr (t, ids)))) (ht : t = 4 ∨ t = 5 ∨ t = 6) (hi : vp_in i ids.length) (ho : ids[i.toNatClampNeg]? = some o) (hd : decode (gXy X) pc = .ok (.aaload, 1)) (kk : gG X (pc + 1) lv (gR o :: st) mu) : gG X pc lv (gI i :: gR k :: st) mu := by
  intro H locs ls hR hl
  have hlt : i.toNatClampNeg < ids.length := Nat.not_le.mp fun q => hi (Or.inr q)
  have ha := hR.1 k _ (gWX_at hk mu)
  have k2 := kk H locs ls hR hl
  have e : va_rf ((ids[i.toNatClampNeg]?).map (gXal X)) = gc (gXal X) (gR o) := by rw [ho]; rfl
  rcases ht with rfl | rfl | rfl
  · exact W.aald (v := gc (gXal X) (gR o)) (ty := gty 4) h.x h.b ha ((h.k.2 4 _ (gtys_at _ (by decide))).1 ids.length (fun j => va_rf ((ids[j]?).map (gXal X)))) rfl (fun q => by cases q) (by show ¬ (i < 0 ∨ (arrV _ _ _).slots.size ≤ _); rw [arrV_size]; exact hi) (by show (arrV _ _ _).slots[_]? = _; rw [arrV_read _ _ hlt, e]) rfl rfl hd k2
  · exact W.aald (v := gc (gXal X) (gR o)) (ty := gty 5) h.x h.b ha ((h.k.2 5 _ (gtys_at _ (by decide))).1 ids.length (fun j => va_rf ((ids[j]?).map (gXal X)))) rfl (fun q => by cases q) (by show ¬ (i < 0 ∨ (arrV _ _ _).slots.size ≤ _); rw [arrV_size]; exact hi) (by show (arrV _ _ _).slots[_]? = _; rw [arrV_read _ _ hlt, e]) rfl rfl hd k2
  · exact W.aald (v := gc (gXal X) (gR o)) (ty := gty 6) h.x h.b ha ((h.k.2 6 _ (gtys_at _ (by decide))).1 ids.length (fun j => va_rf ((ids[j]?).map (gXal X)))) rfl (fun q => by cases q) (by show ¬ (i < 0 ∨ (arrV _ _ _).slots.size ≤ _); rw [arrV_size]; exact hi) (by show (arrV _ _ _).slots[_]? = _; rw [arrV_read _ _ hlt, e]) rfl rfl hd k2
theorem gown_arr {k b n j : Nat} (hj : j < n) : gown (.inr (.inl (k, b, n))) (b + j) = true := by
  simp only [gown, Bool.and_eq_true, Nat.ble_eq, Nat.blt_eq]
  omega
theorem gupd_i {mu : gM} {b j : Nat} {x : Int32} : upd (fun j => Int32.ofInt (mu (b + j))) j x = fun i => Int32.ofInt (gup mu (b + j) x.toInt (b + i)) := by
  funext i
  unfold upd gup
  by_cases hi : i = j
  · subst hi
    simp
  · rw [if_neg hi, if_neg (by omega)]
theorem gupd_l {mu : gM} {b j : Nat} {x : Int64} : vp_updL (fun j => Int64.ofInt (mu (b + j))) j x = fun i => Int64.ofInt (gup mu (b + j) x.toInt (b + i)) := by
  funext i
  unfold vp_updL gup
  by_cases hi : i = j
  · subst hi
    simp
  · rw [if_neg hi, if_neg (by omega)]
theorem g_iastore (h : gOK X) (hlay : glay 0 (gXG X) = true) {k b n : Nat} {i x : Int32} (hk : (gXG X)[k]? = some (.inr (.inl (0, b, n)))) (hi : vp_in i n) (hd : decode (gXy X) pc = .ok (.iastore, 1)) (kk : gG X (pc + 1) lv st (gup mu (b + i.toNatClampNeg) x.toInt)) : gG X pc lv (gI x :: gI i :: gR k :: st) mu := by
  intro H locs ls hR hl
  have hlt : i.toNatClampNeg < n := Nat.not_le.mp fun q => hi (Or.inr q)
  refine va_iast h.x h.b h.k hR.1 (h.d mu) hR.2 k 0 (gWX_at hk mu) (gtys_at _ (by decide)) hi hd (fun H1 locs1 hP1 hD1 hS1 => ?_)
  refine kk H1 locs1 ls ⟨gput hlay hk (gown_arr hlt) hP1 (fun hat => ?_), hS1⟩ hl
  rw [gupd_i] at hat
  exact hat
theorem g_bastore (h : gOK X) (hlay : glay 0 (gXG X) = true) {k b n : Nat} {i x : Int32} (hk : (gXG X)[k]? = some (.inr (.inl (1, b, n)))) (hi : vp_in i n) (hd : decode (gXy X) pc = .ok (.bastore, 1)) (kk : gG X (pc + 1) lv st (gup mu (b + i.toNatClampNeg) (vp_nar .byte x).toInt)) : gG X pc lv (gI x :: gI i :: gR k :: st) mu := by
  intro H locs ls hR hl
  have hlt : i.toNatClampNeg < n := Nat.not_le.mp fun q => hi (Or.inr q)
  refine va_bast h.x h.b h.k hR.1 (h.d mu) hR.2 k 1 (gWX_at hk mu) (gtys_at _ (by decide)) hi hd (fun H1 locs1 hP1 hD1 hS1 => ?_)
  refine kk H1 locs1 ls ⟨gput hlay hk (gown_arr hlt) hP1 (fun hat => ?_), hS1⟩ hl
  rw [gupd_i] at hat
  exact hat
theorem g_zastore (h : gOK X) (hlay : glay 0 (gXG X) = true) {k b n : Nat} {i x : Int32} (hk : (gXG X)[k]? = some (.inr (.inl (2, b, n)))) (hi : vp_in i n) (hd : decode (gXy X) pc = .ok (.bastore, 1)) (kk : gG X (pc + 1) lv st (gup mu (b + i.toNatClampNeg) (vp_nar .boolean x).toInt)) : gG X pc lv (gI x :: gI i :: gR k :: st) mu := by
  intro H locs ls hR hl
  have hlt : i.toNatClampNeg < n := Nat.not_le.mp fun q => hi (Or.inr q)
  refine va_zast h.x h.b h.k hR.1 (h.d mu) hR.2 k 2 (gWX_at hk mu) (gtys_at _ (by decide)) hi hd (fun H1 locs1 hP1 hD1 hS1 => ?_)
  refine kk H1 locs1 ls ⟨gput hlay hk (gown_arr hlt) hP1 (fun hat => ?_), hS1⟩ hl
  rw [gupd_i] at hat
  exact hat
theorem g_lastore (h : gOK X) (hlay : glay 0 (gXG X) = true) {k b n : Nat} {i : Int32} {x : Int64} (hk : (gXG X)[k]? = some (.inr (.inl (3, b, n)))) (hi : vp_in i n) (hd : decode (gXy X) pc = .ok (.lastore, 1)) (kk : gG X (pc + 1) lv st (gup mu (b + i.toNatClampNeg) x.toInt)) : gG X pc lv (gL x :: gI i :: gR k :: st) mu := by
  intro H locs ls hR hl
  have hlt : i.toNatClampNeg < n := Nat.not_le.mp fun q => hi (Or.inr q)
  refine va_last h.x h.b h.k hR.1 (h.d mu) hR.2 k 3 (gWX_at hk mu) (gtys_at _ (by decide)) hi hd (fun H1 locs1 hP1 hD1 hS1 => ?_)
  refine kk H1 locs1 ls ⟨gput hlay hk (gown_arr hlt) hP1 (fun hat => ?_), hS1⟩ hl
  rw [gupd_l] at hat
  exact hat
/-- how long an array of the graph is -/
def glen : gC → Option Nat
  | .inl _ => none
  | .inr (.inl (_, _, n)) => some n
  | .inr (.inr (_, ids)) => some ids.length
def gkind : gC → Nat
  | .inl _ => 9
  | .inr (.inl (k, _, _)) => k
  | .inr (.inr (k, _)) => k
theorem g_arraylength (h : gOK X) {k n : Nat} {g : gC} (hk : (gXG X)[k]? = some g) (hn : glen g = some n) (ht : gkind g < 7) (hd : decode (gXy X) pc = .ok (.arraylength, 1)) (kk : gG X (pc + 1) lv (gI (Int32.ofNat n) :: st) mu) : gG X pc lv (gR k :: st) mu := by
  intro H locs ls hR hl
  rcases g with ⟨ci, fs⟩ | ⟨t, b, m⟩ | ⟨t, ids⟩
  · cases hn
  · cases hn
    by_cases h3 : t = 3
    · exact va_alen (x := (n, .inr (.inl (fun j => Int64.ofInt (mu (b + j)))))) h.x h.b h.k hR.1 k t (by rw [gWX_at hk mu]; simp only [gcell]; rw [if_pos h3]) (gtys_at _ ht) rfl hd (kk H locs ls hR hl)
    · exact va_alen (x := (n, .inl (fun j => Int32.ofInt (mu (b + j))))) h.x h.b h.k hR.1 k t (by rw [gWX_at hk mu]; simp only [gcell]; rw [if_neg h3]) (gtys_at _ ht) rfl hd (kk H locs ls hR hl)
  · cases hn
    exact va_alen (x := (ids.length, .inr (.inr (.inr (.inr (fun j => (ids[j]?).map (gXal X))))))) h.x h.b h.k hR.1 k t (gWX_at hk mu) (gtys_at _ ht) rfl hd (kk H locs ls hR hl)
end GHEAP
