/-! G: what stands around the graph; a method's contract; calls and returns -/
def gNest : Cond → Bool
  | .methodLinkNest _ _ _ _ => true
  | _ => false
def gNW : List Cond := tables_1.filter gNest
def gTx : List String := ["valley", "pairs", "hours", "odds", "want", "at", "worth", "whisper", "late", "to", "lend", "job", "from", "pays"]
def gLen : List Nat := [6, 5, 5, 4, 4, 2, 5, 7, 4, 2, 4, 3, 4, 4]
def gByt : List (List Int32) := [[118, 97, 108, 108, 101, 121], [112, 97, 105, 114, 115], [104, 111, 117, 114, 115], [111, 100, 100, 115], [119, 97, 110, 116], [97, 116], [119, 111, 114, 116, 104], [119, 104, 105, 115, 112, 101, 114], [108, 97, 116, 101], [116, 111], [108, 101, 110, 100], [106, 111, 98], [102, 114, 111, 109], [112, 97, 121, 115]]
def gSR : List (String × Nat × String × Nat) := [("TwinVoice$Reader", 69, "valley", 0), ("TwinVoice$Reader", 75, "pairs", 1), ("TwinVoice$Reader", 83, "hours", 2), ("TwinVoice$Reader", 87, "odds", 3), ("TwinVoice$Reader", 46, "want", 4), ("TwinVoice$Reader", 105, "at", 5), ("TwinVoice$Reader", 107, "worth", 6), ("TwinVoice$Reader", 109, "whisper", 7), ("TwinVoice$Reader", 114, "late", 8), ("TwinVoice$Reader", 116, "to", 9), ("TwinVoice$Reader", 55, "lend", 10), ("TwinVoice$Reader", 60, "job", 11), ("TwinVoice$Reader", 139, "from", 12), ("TwinVoice$Reader", 141, "pays", 13),
  ("TwinVoiceModel", 189, "valley", 0), ("TwinVoiceModel", 191, "pairs", 1), ("TwinVoiceModel", 193, "hours", 2), ("TwinVoiceModel", 195, "odds", 3), ("TwinVoiceModel", 174, "want", 4), ("TwinVoiceModel", 161, "at", 5), ("TwinVoiceModel", 166, "worth", 6), ("TwinVoiceModel", 168, "whisper", 7), ("TwinVoiceModel", 170, "late", 8), ("TwinVoiceModel", 172, "to", 9), ("TwinVoiceModel", 176, "lend", 10), ("TwinVoiceModel", 178, "job", 11), ("TwinVoiceModel", 186, "from", 12), ("TwinVoiceModel", 187, "pays", 13)]
/-- string j is object 1000 + j -/
abbrev gK (al : Nat → Nat) : Nat → Nat := fun j => al (1000 + j)
def gE (al adV : Nat → Nat) (A : Nat → Prop) (U : State) (H : Heap) : Prop :=
  (∀ w ∈ gNW, va_Nw w U) ∧ vk_S 14 gLen gByt (gK al) adV A U H ∧ (∀ q ∈ gSR, vk_R q.1 q.2.1 q.2.2.1 (gK al q.2.2.2) U) ∧ va_Z "java/lang/String" "COMPACT_STRINGS" "Z" (.int 1) A U H ∧ va_Zq "jdk/internal/util/Preconditions" "SIOOBE_FORMATTER" "Ljava/util/function/BiFunction;" A U H
theorem gE.nest {w : Cond} (hw : gNest w = true) {s U : State} (hW : s.WarmedH U.vm) (h : va_Nw w s) : va_Nw w U := by
  cases w with
  | methodLinkNest a i x host => exact va_Nw.warmM hW h
  | _ => cases hw
theorem gE.warm {al adV : Nat → Nat} {A : Nat → Prop} {s U : State} {H H1 : Heap} (hW : s.WarmedH U.vm) (hq : ∀ a : Nat, a < H.size → ¬ A a → H1[a]? = H[a]?) (h : gE al adV A s H) : gE al adV A U H1 :=
  ⟨fun w hw => gE.nest (List.mem_filter.mp hw).2 hW (h.1 w hw), (h.2.1.kept hq).moved hW.alike, fun q hq => (h.2.2.1 q hq).warm hW, (h.2.2.2.1.kept hq).moved hW.alike, (h.2.2.2.2.kept hq).moved hW.alike⟩
theorem gE.frame {al adV : Nat → Nat} {A : Nat → Prop} {U : State} {H : Heap} (g : JFrame) (mk : MethodId) (a : Array Value) (h : gE al adV A U H) : gE al adV A (U.calling g mk a) H :=
  ⟨fun w hw => va_tabs (by have := (List.mem_filter.mp hw).2; cases w <;> first | rfl | cases this) (rfl : U.vm = (U.calling g mk a).vm) (h.1 w hw), h.2.1.moved (Vm.Alike.refl U.vm), fun q hq => (h.2.2.1 q hq).same rfl, h.2.2.2.1.moved (Vm.Alike.refl U.vm), h.2.2.2.2.moved (Vm.Alike.refl U.vm)⟩
/-- the graph's addresses -/
def gA (G : List gC) (al : Nat → Nat) : Nat → Prop := fun q => ∃ k, k < G.length ∧ q = al k
def gB (G : List gC) (al adV : Nat → Nat) (dC : Nat → ClassId) (dI : Nat → Nat → Nat) (dA : Nat → ClassId) (mu : gM) (U : State) : Prop :=
  va_P (dC, dI) vwCl (gW al dA mu 0 G) U.heap ∧ va_K (dC, dI) vwCl (gtys dA) U ∧ va_D (gA G al) (gW al dA mu 0 G)
abbrev gBE (G : List gC) (al adV : Nat → Nat) (dC : Nat → ClassId) (dI : Nat → Nat → Nat) (dA : Nat → ClassId) (mu : gM) (U : State) : Prop := gB G al adV dC dI dA mu U ∧ gE al adV (gA G al) U U.heap
theorem gD_any {G : List gC} {al : Nat → Nat} {dA : Nat → ClassId} {A : Nat → Prop} {mu : gM} (h : va_D A (gW al dA mu 0 G)) (mu' : gM) : va_D A (gW al dA mu' 0 G) := by
  have key : ∀ (i : Nat) (p : Nat × va_E), (gW al dA mu' 0 G)[i]? = some p → ∃ p', (gW al dA mu 0 G)[i]? = some p' ∧ p'.1 = p.1 := by
    intro i p hp
    rw [gW_at] at hp ⊢
    cases e : G[i]? with
    | none => rw [e] at hp; cases hp
    | some g =>
      rw [e] at hp
      simp only [Option.map_some, Option.some.injEq] at hp
      subst hp
      exact ⟨_, rfl, rfl⟩
  refine ⟨fun i j p q hi hj hpq => ?_, fun k q hq => ?_⟩
  · obtain ⟨p', h1, h2⟩ := key i p hi
    obtain ⟨q', h3, h4⟩ := key j q hj
    exact h.1 i j p' q' h1 h3 (by rw [h2, h4]; exact hpq)
  · obtain ⟨q', h1, h2⟩ := key k q hq
    rw [← h2]
    exact h.2 k q' h1
def gQc (G : List gC) (al adV : Nat → Nat) (dC : Nat → ClassId) (dI : Nat → Nat → Nat) (dA : Nat → ClassId) (Post : Option gV → gM → Prop) : Array Value → State → Outcome → State → Prop :=
  fun _ st oc t => (∃ (r : Option gV) (mu : gM), oc = .returned (r.map (gc al)) ∧ Post r mu ∧ gB G al adV dC dI dA mu t) ∧ va_F (gA G al) st t
def gws (y : MethodName) (cb : ByteArray) (maxL : Nat) (ret : Option FieldType) : List Cond := .code y cb maxL ret :: TW
def grm (d : Nat) : Room := { frames := d + 1, cells := 0, slots := 0, locals := 60 * (d + 1) }
/-- A METHOD'S CONTRACT: called on these values over this memory it returns, with Post -/
def gMet (l : Launch) (d : Nat) (y : MethodName) (cb : ByteArray) (maxL : Nat) (ret : Option FieldType) (G : List gC) (av : List gV) (mu : gM) (Post : Option gV → gM → Prop) : Prop :=
  ∀ (al adV : Nat → Nat) (dC : Nat → ClassId) (dI : Nat → Nat → Nat) (dA : Nat → ClassId),
    Met l y (gws y cb maxL ret) (grm d) (va_Pc (av.map (gc al)) (gBE G al adV dC dI dA mu)) (gQc G al adV dC dI dA Post) 0 0 (gA G al)
theorem gBlind {G : List gC} {al adV : Nat → Nat} {dC : Nat → ClassId} {dI : Nat → Nat → Nat} {dA : Nat → ClassId} {mu : gM} {av : List Value} : FrameBlind (va_Pc av (gBE G al adV dC dI dA mu)) := by
  intro a U g mk h
  obtain ⟨h1, ⟨h2, h3, h4⟩, h5⟩ := h
  exact ⟨h1, ⟨h2, va_K.moved (u := U) (U := U.calling g mk a) (Vm.Alike.refl U.vm) h3, h4⟩, h5.frame g mk a⟩
/-- the context of a frame stands in the environment -/
def gOE (X : gX) (adV : Nat → Nat) : Prop := gE (gXal X) adV (gA (gXG X) (gXal X)) (gXs X) (gXs X).heap ∧ (∀ q, gA (gXG X) (gXal X) q → gXA X q) ∧ (∀ q, gXA X q → gA (gXG X) (gXal X) q ∨ (gXs X).heap.size ≤ q)
theorem g_goOn {X : gX} {adV : Nat → Nat} {lv : List (Nat × gV)} {st st0 : List gV} {mu : gM} {pc : Nat} {Post : Option gV → gM → Prop} {a : Array Value} (hOE : gOE X adV)
    (hr : ∀ (H : Heap) (locs : List Loc) (ls : Array Slot), gRep X mu H locs → lv_has ls (gXn X) (glv (gXal X) lv) → va_Run (gXp X) (gXl X) (gXe X) (gXR X) (gXs X) (gXm X) (gXa X) (gXb X) (gXh X) (gXc X) H locs 0 0 0 0 (F0 (gXm X) pc ls (st0.map (gc (gXal X)))) (st.map (gc (gXal X))) (gQc (gXG X) (gXal X) adV (gXdC X) (gXdI X) (gXdA X) Post a) (gA (gXG X) (gXal X)))
    (kk : ∀ (r : Option gV) (mu' : gM), Post r mu' → gG X (pc + 3) lv (r.toList ++ st) mu') : gG X pc lv st0 mu := by
  intro H locs ls hR hl T hT Xs
  obtain ⟨v, st₀, t, T', L, h0, X', hL, e1, e2, ⟨⟨r, mu', hv, hp, hB⟩, hz, hk⟩, go⟩ := hr H locs ls hR hl T hT Xs
  have hv' : v = r.map (gc (gXal X)) := by
    simp only [Outcome.returned.injEq] at hv
    exact hv
  subst hv'
  rw [h0] at hz hk
  have hS := hR.2
  have k1 := kk r mu' hp T'.heap (locs ++ L) ls ⟨by rw [e1]; exact hB.1, Nat.le_trans hS.1 (by rw [e1]; exact hz), fun q h1 h2 => by
    rw [e1, hk q (Nat.lt_of_lt_of_le h1 hS.1) (fun z => h2 (hOE.2.1 q z))]
    exact hS.2.1 q h1 h2, fun q hq => by
      rcases List.mem_append.mp hq with h | h
      · exact hS.2.2 q h
      · exact hOE.2.1 _ (hL q h)⟩ hl
  have e3 : (r.toList ++ st).map (gc (gXal X)) = (r.map (gc (gXal X))).toList ++ st.map (gc (gXal X)) := by
    cases r <;> simp
  rw [e3] at k1
  obtain ⟨t2, a1, b1⟩ := k1 T' rfl X'
  exact ⟨t2, go t2 a1, b1⟩
theorem gB_here {X : gX} (h : gOK X) {adV : Nat → Nat} (hOE : gOE X adV) {mu : gM} {H : Heap} {locs : List Loc} (hR : gRep X mu H locs) {U : State} (hU : U.heap = H) (hW : (gXs X).WarmedH U.vm) : gBE (gXG X) (gXal X) adV (gXdC X) (gXdI X) (gXdA X) mu U := by
  have hd : va_D (gA (gXG X) (gXal X)) (gWX X mu) := by
    refine ⟨(h.d mu).1, fun k q hq => ?_⟩
    rw [gW_at] at hq
    cases e : (gXG X)[k]? with
    | none => rw [e] at hq; cases hq
    | some g =>
      rw [e] at hq
      simp only [Option.map_some, Option.some.injEq] at hq
      subst hq
      exact ⟨k, (List.getElem?_eq_some_iff.mp e).1, by simp⟩
  refine ⟨⟨by rw [hU]; exact hR.1, va_K.moved hW.alike h.k, hd⟩, hOE.1.warm hW (fun a h1 h2 => ?_)⟩
  rw [hU]
  refine hR.2.2.1 a h1 (fun z => ?_)
  rcases hOE.2.2 a z with z | z
  · exact h2 z
  · exact absurd h1 (Nat.not_lt.mpr z)
/-- the words of a call of an instance method -/
def gcw (own : String) (idx : Nat) (y : MethodName) (cb : ByteArray) (maxL : Nat) (ret : Option FieldType) (n : Nat) : Prop :=
  (∀ w ∈ ([.code y cb maxL ret, .initialized y.cls] : List Cond), w ∈ TW) ∧ (y.cls ≠ "java/lang/invoke/MethodHandle" ∧ y.cls ≠ "java/lang/invoke/VarHandle" ∧ (parseMethodDescriptor y.desc).map (fun d => d.parameters.length) = some n) ∧ maxL ≤ 40
theorem gws_good {y : MethodName} {cb : ByteArray} {maxL : Nat} {ret : Option FieldType} (h : Cond.code y cb maxL ret ∈ TW) : GoodIn TW (gws y cb maxL ret) := by
  intro w hw
  rcases List.mem_cons.mp hw with rfl | hw
  · exact TW_good _ h
  · exact TW_good w hw
theorem g_invokevirtual {X : gX} (h : gOK X) {adV : Nat → Nat} (hOE : gOE X adV) {d d' idx maxL n : Nat} {y : MethodName} {cb : ByteArray} {ret : Option FieldType} {Post : Option gV → gM → Prop} {lv : List (Nat × gV)} {as st : List gV} {k : Nat} {mu : gM} {pc : Nat} {ci : Nat} {fs : List gF} {T : u_T} {N : Nat} (hrm : gXR X = grm d ∨ gXR X = room_1 ∧ d ≤ 1300) (hdd : d' < d)
    (hM : gMet (gXl X) d' y cb maxL ret (gXG X) (gR k :: as) mu Post) (hcw : gcw (gXo X) idx y cb maxL ret n) (hl1 : Cond.methodLink (gXo X) idx y ∈ TW) (hl2 : Cond.instanceMethod y ∈ TW) (hl3 : Cond.selects y.cls y y ∈ TW)
    (hk : (gXG X)[k]? = some (.inl (ci, fs))) (hci : vwCl[ci]? = some (y.cls, T, N)) (hn : as.length = n) (hroom : (st.map gcat).sum ≤ 8) (hd : decode (gXy X) pc = .ok (.invokevirtual idx, 3))
    (kk : ∀ (r : Option gV) (mu' : gM), Post r mu' → gG X (pc + 3) lv (r.toList ++ st) mu') : gG X pc lv (as.reverse ++ gR k :: st) mu := by
  refine g_goOn (a := (((gR k :: as) : List gV).map (gc (gXal X))).toArray) hOE (fun H locs ls hR hl => ?_) kk
  have hT : GoodIn TW (wsV (gXo X) idx y.cls y (gws y cb maxL ret)) := by
    intro w hw
    unfold wsV at hw
    rcases List.mem_append.mp hw with hw | hw
    · refine TW_good w ?_
      simp only [List.mem_cons, List.not_mem_nil, or_false] at hw
      rcases hw with rfl | rfl | rfl | rfl
      · exact hl1
      · exact hl2
      · exact hl3
      · exact hcw.1 _ (by simp)
    · exact gws_good (hcw.1 _ (by simp)) w hw
  have hRoom : (grm d').frames + 1 ≤ (gXR X).frames ∧ 8 + (maxL + 11) + (grm d').locals ≤ (gXR X).locals := by
    have hm := hcw.2.2
    rcases hrm with e | ⟨e, hdm⟩
    · rw [e]
      simp only [grm]
      omega
    · rw [e]
      simp only [grm, room_1]
      omega
  have cw := cwV (R := gXR X) (rm := grm d') (mc := 0) (ms := 0) (C := y.cls) n h.t hT rfl rfl rfl ⟨rfl, hcw.2.1⟩ hRoom
  have hMd := hM (gXal X) adV (gXdC X) (gXdI X) (gXdA X)
  have hs : (List.map (gc (gXal X)) (as.reverse ++ gR k :: st)) = (as.map (gc (gXal X))).reverse ++ .ref (gXal X k) :: st.map (gc (gXal X)) := by
    rw [List.map_append, List.map_reverse]
    rfl
  refine va_runV (b := gXal X k) (As := as.map (gc (gXal X))) ⟨h.x, h.b, h.n, h.o, h.t⟩ hMd cw ⟨gBlind, va_recv h.k hR.1 hci (gWX_at hk mu), fun U hU hW => ⟨rfl, gB_here h hOE hR hU hW⟩⟩ rfl (by rw [List.length_map]; exact hn) hl.1 hs (lv_room ?_) hd ⟨Nat.zero_le _, Nat.zero_le _⟩
  rw [List.map_map]
  have e : (st.map ((fun v => v.category) ∘ gc (gXal X))) = st.map gcat := List.map_congr_left (fun v _ => gc_cat _ v)
  rw [e]
  exact hroom
