/-! CONSTRUCTORS: contracts, calls, ends -/
def krm (d mc ms : Nat) : Room := { frames := d + 1, cells := mc, slots := ms, locals := 60 * (d + 1) }
def kPre (al : Nat → Nat) (dC : Nat → ClassId) (dI : Nat → Nat → Nat) (dA : Nat → ClassId) (sz : Nat) (cs : List kC) (U : State) : Prop :=
  U.heap.size = sz ∧ va_P (dC, dI) vwCl (kW al dA 0 cs) U.heap ∧ va_K (dC, dI) vwCl (gtys dA) U ∧ va_D (fun _ => True) (kW al dA 0 cs) ∧ kE U
def kPost (al : Nat → Nat) (dC : Nat → ClassId) (dI : Nat → Nat → Nat) (dA : Nat → ClassId) (A : Nat → Prop) (n : Nat) (cs' : List kC) : Array Value → State → Outcome → State → Prop :=
  va_Qv (fun al' : Nat → Nat => ∀ k, k < n → al' k = al k) (fun al' t => va_P (dC, dI) vwCl (kW al' dA 0 cs') t.heap ∧ va_D A (kW al' dA 0 cs')) A
/-- A CONSTRUCTOR'S CONTRACT: called on place k0 over the cells cs it makes them cs' -/
def kMet (l : Launch) (d : Nat) (y : MethodName) (cb : ByteArray) (mc ms k0 : Nat) (cs cs' : List kC) : Prop :=
  ∀ (al : Nat → Nat) (dC : Nat → ClassId) (dI : Nat → Nat → Nat) (dA : Nat → ClassId) (sz : Nat),
    Met l y (gws y cb 1 none) (krm d mc ms) (va_Pc [.ref (al k0)] (kPre al dC dI dA sz cs)) (kPost al dC dI dA (va_A (kW al dA 0 cs) sz) cs.length cs') mc ms (va_A (kW al dA 0 cs) sz)
theorem kBlind {al : Nat → Nat} {dC : Nat → ClassId} {dI : Nat → Nat → Nat} {dA : Nat → ClassId} {sz : Nat} {cs : List kC} {av : List Value} : FrameBlind (va_Pc av (kPre al dC dI dA sz cs)) := by
  intro a U g mk h
  obtain ⟨h1, h2, h3, h4, h5, h6⟩ := h
  exact ⟨h1, h2, h3, va_K.moved (u := U) (U := U.calling g mk a) (Vm.Alike.refl U.vm) h4, h5, h6.frame g mk a⟩
/-- a frame of a constructor of its own contract -/
def kIn (X : gX) (l : Launch) (d : Nat) (y : MethodName) (cb : ByteArray) (mc ms n0 : Nat) (cs' : List kC) : Prop :=
  kOK X ∧ gXl X = l ∧ gXR X = krm d mc ms ∧ gXy X = cb ∧ gXn X = 1 ∧ gXo X = y.cls ∧ (gXh X).name = "<init>" ∧ gXQ X = MQ (gXb X) (kPost (gXal X) (gXdC X) (gXdI X) (gXdA X) (gXA X) n0 cs') (gXa X) (gXs X) mc ms (gXA X) ∧ (gXh X).sig.returnType = none ∧ (gXh X).locks = false
theorem k_nil (A : Nat → Prop) : va_D A ([] : va_W) := ⟨fun i j p q hi _ _ => by simp at hi, fun k q hq => by simp at hq⟩
theorem kMet.of {l : Launch} {d : Nat} {y : MethodName} {cb : ByteArray} {mc ms k0 : Nat} {cs cs' : List kC} (hy : plainName y.cls = true) (hyn : y.name = "<init>")
    (k : ∀ X : gX, kIn X l d y cb mc ms cs.length cs' → kJ X [(0, .inr (gR k0))] cs.length 0 0 0 [] cs) : kMet l d y cb mc ms k0 cs cs' := by
  intro al dC dI dA sz
  refine Met.ofW (cc := cb) (maxL := 1) (ret := none) hy rfl ?_
  intro p e s m args below meth c s₁ B hml hv
  obtain ⟨rfl, hsz, hP, hK, hD0, hE⟩ := hv
  subst hsz
  have hts := atoms_spec (ws := gws y cb 1 none) B.pre
  have hown : s.vm.findClass y.cls = some m.cls := findClass_of_methodNamed B.named
  have hin : meth.name = "<init>" := ((name_of_methodNamed B.named B.method).1).trans hyn
  have hk := k (p, l, e, (headSpec (gws y cb 1 none) (krm d mc ms)).room, s, m, #[.ref (al k0)], below, meth, c, MQ below (kPost al dC dI dA (va_A (kW al dA 0 cs) s.heap.size) cs.length cs') #[.ref (al k0)] s mc ms (va_A (kW al dA 0 cs) s.heap.size), cb, 1, y.cls, al, dC, dI, dA, va_A (kW al dA 0 cs) s.heap.size, [])
    ⟨⟨⟨B.exec, B.bytes, hml, hown, fun w hw => hts w (List.mem_cons_of_mem _ hw), hK, fun mu => k_nil _⟩, fun q h => Or.inr h, hE⟩, rfl, rfl, rfl, rfl, rfl, hin, rfl, B.returns, B.notSynchronized⟩
  have hl := lv_entry ([.ref (al k0)] : List Value) (n := 1) (Nat.le_of_ble_eq_true rfl)
  rw [lg_entry_eq]
  generalize (lg_sl ([.ref (al k0)] : List Value) ++ List.replicate (1 - (lg_sl ([.ref (al k0)] : List Value)).length) Slot.unset).toArray = ls at hl ⊢
  exact hk al s.heap [] ls (fun _ _ => rfl) hP hD0.self va_S.rf hl
section KCALL
variable {X : gX} {lv : kLv} {n0 nc ns pc : Nat} {st : List gV} {cs cs' : List kC}
theorem k_ret {l : Launch} {d mc ms : Nat} {y : MethodName} {cb : ByteArray} (hI : kIn X l d y cb mc ms n0 cs) (h1 : nc ≤ mc) (h2 : ns ≤ ms) (hd : decode (gXy X) pc = .ok (.return_, 1)) : kJ X lv n0 nc ns pc [] cs := by
  obtain ⟨h, -, -, -, -, -, -, hQ, hr, hlk⟩ := hI
  intro al H locs ls ha hP hD hS hl
  refine W.widen (k := mc) (n := ms) h1 h2 ?_
  show W _ _ _ _ _ _ _ _ _ _ _ _ _ _ (gXQ X) _
  rw [hQ]
  exact W.vret h.1.x h.1.b hr (fun t ht hW => ⟨⟨al, rfl, ha, by rw [ht]; exact hP, hD⟩, hS.F ht⟩) hS.2.2 hd hlk
theorem k_after {mc ms q : Nat} (h : kOK X) (hn0 : n0 ≤ cs.length) (ws : st.all (vwf cs.length) = true) (wl : lwf cs.length lv = true)
    (hr : ∀ (al : Nat → Nat) (H : Heap) (locs : List Loc) (ls : Array Slot), (∀ k, k < n0 → al k = gXal X k) → va_P (gXdC X, gXdI X) vwCl (kW al (gXdA X) 0 cs) H → va_D (gXA X) (kW al (gXdA X) 0 cs) → va_S (gXA X) (gXs X).heap H locs → lv_has ls (gXn X) (klv al lv) →
      va_Run (gXp X) (gXl X) (gXe X) (gXR X) (gXs X) (gXm X) (gXa X) (gXb X) (gXh X) (gXc X) H locs nc ns mc ms (F0 (gXm X) pc ls (.ref (al q) :: st.map (gc al))) (st.map (gc al)) (kPost al (gXdC X) (gXdI X) (gXdA X) (va_A (kW al (gXdA X) 0 cs) H.size) cs.length cs' #[.ref (al q)]) (va_A (kW al (gXdA X) 0 cs) H.size))
    (k : kJ X lv n0 (nc + mc) (ns + ms) (pc + 3) st cs') : kJ X lv n0 nc ns pc (gR q :: st) cs := by
  intro al H locs ls ha hP hD hS hl
  have hfree : ∀ x, va_A (kW al (gXdA X) 0 cs) H.size x → gXA X x := fun x hx => by
    rcases hx with ⟨j, e, hj⟩ | hx
    · exact hD.2 j _ hj
    · exact h.2.1 x (Nat.le_trans hS.1 hx)
  refine va_callv (hr al H locs ls ha hP hD hS hl) hS (fun x _ hx => hfree x hx) hfree (fun al' t H1 locs1 ht hvm hag hB hz hk1 hS1 => ?_)
  obtain ⟨hP1, hD1⟩ := hB
  rw [ht] at hP1
  have := k al' H1 locs1 ls (fun j hj => by rw [hag j (by omega)]; exact ha j hj) hP1 (hD1.weaken (fun _ x _ hx => hfree x.1 hx)) hS1 (by rw [klv_agree hag wl]; exact hl)
  rw [gcs_agree hag ws] at this
  exact this
theorem k_pre {al : Nat → Nat} {H : Heap} {q : Nat} (h : kOK X) (hP : va_P (gXdC X, gXdI X) vwCl (kW al (gXdA X) 0 cs) H) (hD : va_D (gXA X) (kW al (gXdA X) 0 cs)) : PreS (gXs X) H (va_Pc [.ref (al q)] (kPre al (gXdC X) (gXdI X) (gXdA X) H.size cs)) (.ref (al q) :: []) :=
  ⟨kBlind, fun U hU hW => ⟨rfl, by rw [hU], by rw [hU]; exact hP, va_K.moved hW.alike h.1.k, hD.weaken (fun _ _ _ _ => trivial), h.2.2.warm hW⟩⟩
theorem k_room {al : Nat → Nat} (hs : (st.map gcat).sum ≤ 8) : ((st.map (gc al)).map fun v => v.category).sum ≤ 8 := by
  rw [List.map_map]
  have e : (st.map ((fun v => v.category) ∘ gc al)) = st.map gcat := List.map_congr_left (fun v _ => gc_cat _ v)
  rw [e]
  exact hs
theorem k_callN {d' mc ms q idx : Nat} {y : MethodName} {cb : ByteArray} {host : String} (h : kOK X) (hM : kMet (gXl X) d' y cb mc ms q cs cs') (hn0 : n0 ≤ cs.length) (ws : st.all (vwf cs.length) = true) (wl : lwf cs.length lv = true)
    (hw1 : Jvm.Cond.code y cb 1 none ∈ TW) (hw2 : Jvm.Cond.initialized y.cls ∈ TW) (hw3 : Jvm.Cond.methodLinkNest (gXo X) idx y host ∈ gNW) (hw4 : Jvm.Cond.instanceMethod y ∈ TW) (hy1 : y.name = "<init>") (hy2 : y.cls ≠ "java/lang/invoke/MethodHandle" ∧ y.cls ≠ "java/lang/invoke/VarHandle" ∧ (parseMethodDescriptor y.desc).map (fun d => d.parameters.length) = some 0)
    (hr1 : (krm d' mc ms).frames + 1 ≤ (gXR X).frames ∧ 8 + (1 + 11) + (krm d' mc ms).locals ≤ (gXR X).locals) (hs : (st.map gcat).sum ≤ 8) (hc1 : nc + mc ≤ (gXR X).cells) (hc2 : ns + ms ≤ (gXR X).slots)
    (hd : decode (gXy X) pc = .ok (.invokespecial idx, 3)) (k : kJ X lv n0 (nc + mc) (ns + ms) (pc + 3) st cs') : kJ X lv n0 nc ns pc (gR q :: st) cs := by
  refine k_after (mc := mc) (ms := ms) h hn0 ws wl (fun al H locs ls ha hP hD hS hl => ?_) k
  exact va_runIN (As := []) (b := al q) ⟨h.1.x, h.1.b, h.1.n, h.1.o, h.1.t⟩ (hM al (gXdC X) (gXdI X) (gXdA X) H.size) ⟨va_cnB (args := gXa X) (R := gXR X) (rm := krm d' mc ms) (mc := mc) (ms := ms) 0 h.1.t (gws_good hw1) rfl rfl rfl (h.2.2.1 _ hw3) (h.1.t _ hw2) hy2 hr1, hy1, h.1.t _ hw4⟩ (k_pre h hP hD) rfl rfl hl.1 rfl (lv_room (k_room hs)) hd ⟨hc1, hc2⟩
theorem k_callP {d' mc ms q idx : Nat} {y : MethodName} {cb : ByteArray} (h : kOK X) (hM : kMet (gXl X) d' y cb mc ms q cs cs') (hn0 : n0 ≤ cs.length) (ws : st.all (vwf cs.length) = true) (wl : lwf cs.length lv = true)
    (hw1 : Jvm.Cond.code y cb 1 none ∈ TW) (hw2 : Jvm.Cond.initialized y.cls ∈ TW) (hw3 : Jvm.Cond.methodLink (gXo X) idx y ∈ TW) (hw4 : Jvm.Cond.instanceMethod y ∈ TW) (hy1 : y.name = "<init>") (hy2 : y.cls ≠ "java/lang/invoke/MethodHandle" ∧ y.cls ≠ "java/lang/invoke/VarHandle" ∧ (parseMethodDescriptor y.desc).map (fun d => d.parameters.length) = some 0)
    (hr1 : (krm d' mc ms).frames + 1 ≤ (gXR X).frames ∧ 8 + (1 + 11) + (krm d' mc ms).locals ≤ (gXR X).locals) (hs : (st.map gcat).sum ≤ 8) (hc1 : nc + mc ≤ (gXR X).cells) (hc2 : ns + ms ≤ (gXR X).slots)
    (hd : decode (gXy X) pc = .ok (.invokespecial idx, 3)) (k : kJ X lv n0 (nc + mc) (ns + ms) (pc + 3) st cs') : kJ X lv n0 nc ns pc (gR q :: st) cs := by
  refine k_after (mc := mc) (ms := ms) h hn0 ws wl (fun al H locs ls ha hP hD hS hl => ?_) k
  exact va_runI (As := []) (b := al q) ⟨h.1.x, h.1.b, h.1.n, h.1.o, h.1.t⟩ (hM al (gXdC X) (gXdI X) (gXdA X) H.size) (cwI (args := gXa X) (R := gXR X) (rm := krm d' mc ms) (mc := mc) (ms := ms) 0 h.1.t (gws_good hw1) rfl rfl rfl (h.1.t _ hw2) (h.1.t _ hw3) (h.1.t _ hw4) hy1 hy2 hr1) (k_pre h hP hD) rfl rfl hl.1 rfl (lv_room (k_room hs)) hd ⟨hc1, hc2⟩
end KCALL
