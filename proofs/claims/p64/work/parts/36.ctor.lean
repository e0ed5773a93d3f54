/-! CONSTRUCTORS: the cells that they make -/
/-- a made cell: an object (class, fields), an array of numbers (kind, numbers), an array of references (kind, places) -/
abbrev kC : Type := (Nat × List gV) ⊕ ((Nat × List Int) ⊕ (Nat × List (Option Nat)))
def kcell (al : Nat → Nat) (dA : Nat → ClassId) : kC → va_E
  | .inl (ci, fs) => .inr (ci, fs.map (gc al))
  | .inr (.inl (k, xs)) => if k = 3 then .inl (dA 3, xs.length, .inr (.inl (fun j => Int64.ofInt (xs.getD j 0)))) else .inl (dA k, xs.length, .inl (fun j => Int32.ofInt (xs.getD j 0)))
  | .inr (.inr (k, ids)) => .inl (dA k, ids.length, .inr (.inr (.inr (.inr (fun j => (ids.getD j none).map al)))))
def kvp (kd : Nat) (xs : List Int) : vp_A := if kd = 3 then (xs.length, .inr (.inl (fun j => Int64.ofInt (xs.getD j 0)))) else (xs.length, .inl (fun j => Int32.ofInt (xs.getD j 0)))
def kW (al : Nat → Nat) (dA : Nat → ClassId) : Nat → List kC → va_W
  | _, [] => []
  | k, g :: r => (al k, kcell al dA g) :: kW al dA (k + 1) r
theorem kW_at {al : Nat → Nat} {dA : Nat → ClassId} : ∀ (G : List kC) (b k : Nat), (kW al dA b G)[k]? = (G[k]?).map (fun g => (al (b + k), kcell al dA g))
  | [], _, _ => rfl
  | g :: r, b, 0 => rfl
  | g :: r, b, k + 1 => by
    show (kW al dA (b + 1) r)[k]? = _
    rw [kW_at r (b + 1) k, show b + 1 + k = b + (k + 1) by omega]
    rfl
theorem kW_len {al : Nat → Nat} {dA : Nat → ClassId} : ∀ (G : List kC) (b : Nat), (kW al dA b G).length = G.length
  | [], _ => rfl
  | g :: r, b => by show (kW al dA (b + 1) r).length + 1 = r.length + 1; rw [kW_len r]
def vwf (n : Nat) : gV → Bool
  | .inr (some k) => Nat.blt k n
  | _ => true
def owf (n : Nat) : Option Nat → Bool
  | some k => Nat.blt k n
  | none => true
def cwf (n : Nat) : kC → Bool
  | .inl (_, fs) => fs.all (vwf n)
  | .inr (.inl _) => true
  | .inr (.inr (_, ids)) => ids.all (owf n)
theorem gc_agree {al al' : Nat → Nat} {n : Nat} (h : ∀ k, k < n → al' k = al k) {v : gV} (hv : vwf n v = true) : gc al' v = gc al v := by
  rcases v with (x | x) | (_ | k)
  · rfl
  · rfl
  · rfl
  · simp only [vwf, Nat.blt_eq] at hv
    show Value.ref (al' k) = Value.ref (al k)
    rw [h k hv]
theorem gcs_agree {al al' : Nat → Nat} {n : Nat} (h : ∀ k, k < n → al' k = al k) {vs : List gV} (hv : vs.all (vwf n) = true) : vs.map (gc al') = vs.map (gc al) :=
  List.map_congr_left (fun v hm => gc_agree h (List.all_eq_true.mp hv v hm))
theorem kcell_agree {al al' : Nat → Nat} {dA : Nat → ClassId} {n : Nat} (h : ∀ k, k < n → al' k = al k) {c : kC} (hc : cwf n c = true) : kcell al' dA c = kcell al dA c := by
  rcases c with ⟨ci, fs⟩ | ⟨k, xs⟩ | ⟨k, ids⟩
  · show (Sum.inr (ci, fs.map (gc al')) : va_E) = Sum.inr (ci, fs.map (gc al))
    rw [gcs_agree h hc]
  · rfl
  · simp only [kcell]
    refine congrArg (fun f : Nat → Option Nat => (Sum.inl (dA k, ids.length, .inr (.inr (.inr (.inr f)))) : va_E)) (funext fun j => ?_)
    cases e : ids[j]? with
    | none => simp [List.getD, e]
    | some o =>
      have := List.all_eq_true.mp hc o (List.mem_of_getElem? e)
      cases o with
      | none => simp [List.getD, e]
      | some k =>
        simp only [owf, Nat.blt_eq] at this
        simp [List.getD, e, h k this]
theorem kW_agree {al al' : Nat → Nat} {dA : Nat → ClassId} {n : Nat} (h : ∀ k, k < n → al' k = al k) : ∀ (cs : List kC) (b : Nat), cs.all (cwf n) = true → b + cs.length ≤ n → kW al' dA b cs = kW al dA b cs
  | [], _, _, _ => rfl
  | c :: r, b, hc, hn => by
    simp only [List.all_cons, Bool.and_eq_true] at hc
    simp only [List.length_cons] at hn
    show (al' b, kcell al' dA c) :: kW al' dA (b + 1) r = (al b, kcell al dA c) :: kW al dA (b + 1) r
    rw [h b (by omega), kcell_agree h hc.1, kW_agree h r (b + 1) hc.2 (by omega)]
theorem kW_app {al : Nat → Nat} {dA : Nat → ClassId} : ∀ (c1 c2 : List kC) (b : Nat), kW al dA b (c1 ++ c2) = kW al dA b c1 ++ kW al dA (b + c1.length) c2
  | [], c2, b => rfl
  | c :: r, c2, b => by
    show (al b, kcell al dA c) :: kW al dA (b + 1) (r ++ c2) = _
    rw [kW_app r c2 (b + 1), List.length_cons, show b + (r.length + 1) = b + 1 + r.length by omega]
    rfl
theorem kW_set {al : Nat → Nat} {dA : Nat → ClassId} : ∀ (cs : List kC) (b q : Nat) (c : kC), kW al dA b (cs.set q c) = (kW al dA b cs).set q (al (b + q), kcell al dA c)
  | [], _, _, _ => rfl
  | _ :: _, _, 0, _ => rfl
  | g :: r, b, q + 1, c => by
    show (al b, kcell al dA g) :: kW al dA (b + 1) (r.set q c) = (al b, kcell al dA g) :: (kW al dA (b + 1) r).set q _
    rw [kW_set r (b + 1) q c, show b + 1 + q = b + (q + 1) by omega]
def kUp (al : Nat → Nat) (n q : Nat) : Nat → Nat := fun k => if k = n then q else al k
theorem kUp_s {al : Nat → Nat} {n q : Nat} : kUp al n q n = q := if_pos rfl
theorem kUp_lt {al : Nat → Nat} {n q k : Nat} (h : k < n) : kUp al n q k = al k := if_neg (by omega)
theorem kW_push {al : Nat → Nat} {dA : Nat → ClassId} {cs : List kC} {q : Nat} {c : kC} (h : cs.all (cwf cs.length) = true) (hc : cwf cs.length c = true) : kW (kUp al cs.length q) dA 0 (cs ++ [c]) = kW al dA 0 cs ++ [(q, kcell al dA c)] := by
  have ha : ∀ k, k < cs.length → kUp al cs.length q k = al k := fun k hk => kUp_lt hk
  rw [kW_app, kW_agree ha cs 0 h (by omega)]
  show kW al dA 0 cs ++ [(kUp al cs.length q (0 + cs.length), kcell (kUp al cs.length q) dA c)] = _
  rw [Nat.zero_add, kUp_s, kcell_agree ha hc]
/-- locals: a value, or one that moves with the addresses -/
abbrev kLv : Type := List (Nat × (Value ⊕ gV))
def kval (al : Nat → Nat) : Value ⊕ gV → Value
  | .inl v => v
  | .inr g => gc al g
def klv (al : Nat → Nat) (lv : kLv) : List (Nat × Value) := lv.map (fun q => (q.1, kval al q.2))
def lwf (n : Nat) (lv : kLv) : Bool := lv.all (fun q => match q.2 with | .inl _ => true | .inr g => vwf n g)
theorem klv_agree {al al' : Nat → Nat} {n : Nat} (h : ∀ k, k < n → al' k = al k) {lv : kLv} (hv : lwf n lv = true) : klv al' lv = klv al lv := by
  refine List.map_congr_left (fun q hm => ?_)
  have := List.all_eq_true.mp hv q hm
  obtain ⟨i, v | g⟩ := q
  · rfl
  · simp only at this
    show (i, gc al' g) = (i, gc al g)
    rw [gc_agree h this]
theorem klv_at {al : Nat → Nat} {ls : Array Slot} {n : Nat} {lv : kLv} (h : lv_has ls n (klv al lv)) {i : Nat} {v : Value ⊕ gV} (hi : (i, v) ∈ lv) : ls[i]? = some (.val (kval al v)) :=
  h.2.2 (i, kval al v) (List.mem_map.mpr ⟨(i, v), hi, rfl⟩)
/-- what the environment says of arrays of references, and of nest mates -/
def kE (U : State) : Prop := (∀ w ∈ gNW, va_Nw w U) ∧ va_AO "TwinVoice$Valley" U ∧ va_AO "TwinVoice$Slot" U ∧ (Cond.arrayOver (.array .int)).before #[] U = true
theorem kE.warm {s U : State} (hW : s.WarmedH U.vm) (h : kE s) : kE U := ⟨fun w hw => gE.nest (List.mem_filter.mp hw).2 hW (h.1 w hw), h.2.1.moved hW.alike, h.2.2.1.moved hW.alike, over_moved hW.alike h.2.2.2⟩
theorem kE.frame {U : State} (g : JFrame) (mk : MethodId) (a : Array Value) (h : kE U) : kE (U.calling g mk a) :=
  ⟨fun w hw => va_tabs (by have := (List.mem_filter.mp hw).2; cases w <;> first | rfl | cases this) (rfl : U.vm = (U.calling g mk a).vm) (h.1 w hw), h.2.1.moved (Vm.Alike.refl U.vm), h.2.2.1.moved (Vm.Alike.refl U.vm), over_moved (Vm.Alike.refl U.vm) h.2.2.2⟩
/-- THE JUDGEMENT of a frame that makes cells -/
def kJ (X : gX) (lv : kLv) (n0 nc ns pc : Nat) (st : List gV) (cs : List kC) : Prop :=
  ∀ (al : Nat → Nat) (H : Heap) (locs : List Loc) (ls : Array Slot), (∀ k, k < n0 → al k = gXal X k) → va_P (gXdC X, gXdI X) vwCl (kW al (gXdA X) 0 cs) H → va_D (gXA X) (kW al (gXdA X) 0 cs) → va_S (gXA X) (gXs X).heap H locs → lv_has ls (gXn X) (klv al lv) →
    W (gXp X) (gXl X) (gXe X) (gXR X) (gXs X) (gXm X) (gXa X) (gXb X) (gXh X) (gXc X) H locs nc ns (gXQ X) (F0 (gXm X) pc ls (st.map (gc al)))
def kOK (X : gX) : Prop := gOK X ∧ (∀ q, (gXs X).heap.size ≤ q → gXA X q) ∧ kE (gXs X)
section KROWS
variable {X : gX} {lv : kLv} {n0 nc ns pc : Nat} {st : List gV} {cs : List kC}
theorem k_aload (h : kOK X) {i : Fin 4} {k0 : Nat} (hd : decode (gXy X) pc = .ok (.aload_n i, 1)) (hl0 : ((i : Nat), .inr (gR k0)) ∈ lv) (k : kJ X lv n0 nc ns (pc + 1) (gR k0 :: st) cs) : kJ X lv n0 nc ns pc st cs :=
  fun al H locs ls ha hP hD hS hl => lv_aload_n h.1.x h.1.b hd rfl (klv_at hl hl0) (k al H locs ls ha hP hD hS hl)
theorem k_dup (h : kOK X) {v : gV} (hd : decode (gXy X) pc = .ok (.dup, 1)) (hc : gcat v = 1) (k : kJ X lv n0 nc ns (pc + 1) (v :: v :: st) cs) : kJ X lv n0 nc ns pc (v :: st) cs :=
  fun al H locs ls ha hP hD hS hl => lv_dup h.1.x h.1.b hd (by rw [gc_cat]; exact hc) (k al H locs ls ha hP hD hS hl)
theorem k_iconst (h : kOK X) {n : Int} (hd : decode (gXy X) pc = .ok (.iconst n, 1)) (k : kJ X lv n0 nc ns (pc + 1) (gI (Int32.ofInt n) :: st) cs) : kJ X lv n0 nc ns pc st cs :=
  fun al H locs ls ha hP hD hS hl => lv_iconst h.1.x h.1.b hd rfl (k al H locs ls ha hP hD hS hl)
theorem k_bipush (h : kOK X) {n : Int} (hd : decode (gXy X) pc = .ok (.bipush n, 2)) (k : kJ X lv n0 nc ns (pc + 2) (gI ((Int8.ofInt n).toInt32) :: st) cs) : kJ X lv n0 nc ns pc st cs :=
  fun al H locs ls ha hP hD hS hl => lv_bipush h.1.x h.1.b hd rfl (k al H locs ls ha hP hD hS hl)
theorem k_sipush (h : kOK X) {n : Int} (hd : decode (gXy X) pc = .ok (.sipush n, 3)) (k : kJ X lv n0 nc ns (pc + 3) (gI ((Int16.ofInt n).toInt32) :: st) cs) : kJ X lv n0 nc ns pc st cs :=
  fun al H locs ls ha hP hD hS hl => lv_sipush h.1.x h.1.b hd rfl (k al H locs ls ha hP hD hS hl)
theorem k_new (h : kOK X) {idx ci N : Nat} {C : String} {T : u_T} {fs : List gV} (hc : gcls ci C T N) (hw1 : Jvm.Cond.classLink (gXo X) idx C ∈ TW) (hw2 : Jvm.Cond.instantiable C N ∈ TW) (hw3 : Jvm.Cond.initialized C ∈ TW)
    (hfs : ∀ (al : Nat → Nat) (j : Nat), j < N → ∀ t, parseFieldDescriptor (T j).2.2.1 = some t → defaultValue t = vp_V (fs.map (gc al)) j) (hn0 : n0 ≤ cs.length) (wc : cs.all (cwf cs.length) = true) (ws : st.all (vwf cs.length) = true) (wl : lwf cs.length lv = true) (wf : fs.all (vwf cs.length) = true)
    (hc1 : nc + 1 ≤ (gXR X).cells) (hc2 : ns + N ≤ (gXR X).slots) (hd : decode (gXy X) pc = .ok (.new idx, 3)) (k : kJ X lv n0 (nc + 1) (ns + N) (pc + 3) (gR cs.length :: st) (cs ++ [.inl (ci, fs)])) : kJ X lv n0 nc ns pc st cs := by
  intro al H locs ls ha hP hD hS hl
  obtain ⟨ty0, hty0⟩ := hc.2.2.2.2
  refine va_new (ci := ci) (fs := fs.map (gc al)) h.1.x h.1.b h.1.t hc.2.1 ty0 hty0 h.1.o (h.1.t _ hw1) (h.1.t _ hw2) (h.1.t _ hw3) h.1.k hP hD hS h.2.1 hc.1 (fun j hj => hfs al j hj _ (hty0 j hj)) hc1 hc2 hd (fun q H1 hP1 hD1 hS1 => ?_)
  have e : kW (kUp al cs.length q) (gXdA X) 0 (cs ++ [.inl (ci, fs)]) = kW al (gXdA X) 0 cs ++ [(q, .inr (ci, fs.map (gc al)))] := kW_push (c := .inl (ci, fs)) wc wf
  have hag : ∀ j, j < cs.length → kUp al cs.length q j = al j := fun j hj => kUp_lt hj
  have := k (kUp al cs.length q) H1 locs ls (fun j hj => by rw [hag j (by omega)]; exact ha j hj) (by rw [e]; exact hP1) (by rw [e]; exact hD1) hS1 (by rw [klv_agree hag wl]; exact hl)
  rw [List.map_cons, gcs_agree hag ws, show gc (kUp al cs.length q) (gR cs.length) = Value.ref q from congrArg Value.ref kUp_s] at this
  exact this
theorem k_newarray (h : kOK X) {ty : ArrayType} {kd n : Nat} {i : Int32} (hk : kd < 4) (hty : newarray.typeOf ty = gty kd) (hw : Jvm.Cond.arrayClass (gty kd) ∈ TW) (hn0 : n0 ≤ cs.length) (wc : cs.all (cwf cs.length) = true) (ws : st.all (vwf cs.length) = true) (wl : lwf cs.length lv = true)
    (hi : ¬ i < 0) (hn : i.toNatClampNeg = n) (hb : n ≤ 60000) (hc1 : nc + 1 ≤ (gXR X).cells) (hc2 : ns + n ≤ (gXR X).slots) (hd : decode (gXy X) pc = .ok (.newarray ty, 2))
    (k : kJ X lv n0 (nc + 1) (ns + n) (pc + 2) (gR cs.length :: st) (cs ++ [.inr (.inl (kd, List.replicate n 0))])) : kJ X lv n0 nc ns pc (gI i :: st) cs := by
  intro al H locs ls ha hP hD hS hl
  have hbytes : n * componentBytes (gty kd) ≤ 536870912 := by
    have : componentBytes (gty kd) ≤ 8 := by
      rcases (show kd = 0 ∨ kd = 1 ∨ kd = 2 ∨ kd = 3 by omega) with rfl | rfl | rfl | rfl <;> decide
    calc n * componentBytes (gty kd) ≤ 60000 * 8 := Nat.mul_le_mul hb this
      _ ≤ _ := by decide
  have hcell : ∀ cA : ClassId, vp_cell cA (kvp kd (List.replicate n 0)) = arrV cA n (fun _ => defaultValue (gty kd)) := by
    intro cA
    rcases (show kd = 0 ∨ kd = 1 ∨ kd = 2 ∨ kd = 3 by omega) with rfl | rfl | rfl | rfl
    · show arrV cA (List.replicate n (0 : Int)).length (fun j => Value.int (Int32.ofInt ((List.replicate n (0 : Int)).getD j 0))) = _
      rw [List.length_replicate]
      exact garr_eq (fun j hj => by simp [List.getD, hj]; rfl)
    · show arrV cA (List.replicate n (0 : Int)).length (fun j => Value.int (Int32.ofInt ((List.replicate n (0 : Int)).getD j 0))) = _
      rw [List.length_replicate]
      exact garr_eq (fun j hj => by simp [List.getD, hj]; rfl)
    · show arrV cA (List.replicate n (0 : Int)).length (fun j => Value.int (Int32.ofInt ((List.replicate n (0 : Int)).getD j 0))) = _
      rw [List.length_replicate]
      exact garr_eq (fun j hj => by simp [List.getD, hj]; rfl)
    · show arrV cA (List.replicate n (0 : Int)).length (fun j => Value.long (Int64.ofInt ((List.replicate n (0 : Int)).getD j 0))) = _
      rw [List.length_replicate]
      exact garr_eq (fun j hj => by simp [List.getD, hj]; rfl)
  refine va_newa h.1.x h.1.b (by rw [hty]; exact h.1.t _ hw) hty h.1.k hP hD hS h.2.1 hcell hi hn hbytes hc1 hc2 hd (fun q cA H1 hK1 hP1 hD1 hS1 => ?_)
  have hdA : cA = gXdA X kd := by
    have z1 := (hK1.2 7 (cA, gty kd) rfl).2
    have z2 := (h.1.k.2 kd _ (gtys_at (gXdA X) (by omega))).2
    rcases (show kd = 0 ∨ kd = 1 ∨ kd = 2 ∨ kd = 3 by omega) with rfl | rfl | rfl | rfl <;> exact Option.some.inj (z1.symm.trans z2)
  subst hdA
  have e : kW (kUp al cs.length q) (gXdA X) 0 (cs ++ [.inr (.inl (kd, List.replicate n 0))]) = kW al (gXdA X) 0 cs ++ [(q, kcell al (gXdA X) (.inr (.inl (kd, List.replicate n 0))))] := kW_push wc rfl
  have e2 : kcell al (gXdA X) (.inr (.inl (kd, List.replicate n 0))) = .inl (gXdA X kd, kvp kd (List.replicate n 0)) := by
    rcases (show kd = 0 ∨ kd = 1 ∨ kd = 2 ∨ kd = 3 by omega) with rfl | rfl | rfl | rfl <;> rfl
  rw [← e2, ← e] at hP1 hD1
  have hag : ∀ j, j < cs.length → kUp al cs.length q j = al j := fun j hj => kUp_lt hj
  have := k (kUp al cs.length q) H1 locs ls (fun j hj => by rw [hag j (by omega)]; exact ha j hj) hP1 hD1 hS1 (by rw [klv_agree hag wl]; exact hl)
  rw [List.map_cons, gcs_agree hag ws, show gc (kUp al cs.length q) (gR cs.length) = Value.ref q from congrArg Value.ref kUp_s] at this
  exact this
end KROWS
