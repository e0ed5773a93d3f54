/-! G: static calls, calls of a nest mate's private methods, returns, a method's entry -/
section GCALL
variable {X : gX} {adV : Nat → Nat} {lv : List (Nat × gV)} {as st : List gV} {mu : gM} {pc d d' idx maxL n : Nat} {y : MethodName} {cb : ByteArray} {ret : Option FieldType} {Post : Option gV → gM → Prop}
def gRm (X : gX) (d : Nat) : Prop := gXR X = grm d ∨ gXR X = room_1 ∧ d ≤ 1300
theorem gRm.fits (h : gRm X d) (hdd : d' < d) (hm : maxL ≤ 40) : (grm d').frames + 1 ≤ (gXR X).frames ∧ 8 + (maxL + 11) + (grm d').locals ≤ (gXR X).locals := by
  rcases h with e | ⟨e, hdm⟩
  · rw [e]
    simp only [grm]
    omega
  · rw [e]
    simp only [grm, room_1]
    omega
theorem g_sum (X : gX) (st : List gV) (h : (st.map gcat).sum ≤ 8) : ((st.map (gc (gXal X))).map fun v => v.category).sum ≤ 8 := by
  rw [List.map_map]
  have e : (st.map ((fun v => v.category) ∘ gc (gXal X))) = st.map gcat := List.map_congr_left (fun v _ => gc_cat _ v)
  rw [e]
  exact h
theorem g_invokestatic (h : gOK X) (hOE : gOE X adV) (hrm : gRm X d) (hdd : d' < d)
    (hM : gMet (gXl X) d' y cb maxL ret (gXG X) as mu Post) (hcw : gcw (gXo X) idx y cb maxL ret n) (hl1 : Cond.methodLink (gXo X) idx y ∈ TW) (hl2 : Cond.static y ∈ TW)
    (hn : as.length = n) (hroom : (st.map gcat).sum ≤ 8) (hd : decode (gXy X) pc = .ok (.invokestatic idx, 3))
    (kk : ∀ (r : Option gV) (mu' : gM), Post r mu' → gG X (pc + 3) lv (r.toList ++ st) mu') : gG X pc lv (as.reverse ++ st) mu := by
  refine g_goOn (a := (as.map (gc (gXal X))).toArray) hOE (fun H locs ls hR hl => ?_) kk
  have hT : GoodIn TW (va_wsS (gXo X) idx y (gws y cb maxL ret)) := by
    intro w hw
    unfold va_wsS at hw
    rcases List.mem_append.mp hw with hw | hw
    · refine TW_good w ?_
      simp only [List.mem_cons, List.not_mem_nil, or_false] at hw
      rcases hw with rfl | rfl | rfl
      · exact hl1
      · exact hl2
      · exact hcw.1 _ (by simp)
    · exact gws_good (hcw.1 _ (by simp)) w hw
  have cw := va_cwS (R := gXR X) (rm := grm d') (mc := 0) (ms := 0) n h.t hT rfl rfl rfl hcw.2.1 (hrm.fits hdd hcw.2.2)
  have hMd := hM (gXal X) adV (gXdC X) (gXdI X) (gXdA X)
  have hs : (List.map (gc (gXal X)) (as.reverse ++ st)) = (as.map (gc (gXal X))).reverse ++ st.map (gc (gXal X)) := by
    rw [List.map_append, List.map_reverse]
  exact va_runS (As := as.map (gc (gXal X))) ⟨h.x, h.b, h.n, h.o, h.t⟩ hMd cw ⟨gBlind, fun U hU hW => ⟨rfl, gB_here h hOE hR hU hW⟩⟩ rfl (by rw [List.length_map]; exact hn) hl.1 hs (lv_room (g_sum X st hroom)) hd ⟨Nat.zero_le _, Nat.zero_le _⟩
theorem g_invokestaticN (h : gOK X) (hOE : gOE X adV) (hrm : gRm X d) (hdd : d' < d) {host : String}
    (hM : gMet (gXl X) d' y cb maxL ret (gXG X) as mu Post) (hcw : gcw (gXo X) idx y cb maxL ret n) (hl1 : Cond.methodLinkNest (gXo X) idx y host ∈ gNW) (hl2 : Cond.static y ∈ TW)
    (hn : as.length = n) (hroom : (st.map gcat).sum ≤ 8) (hd : decode (gXy X) pc = .ok (.invokestatic idx, 3))
    (kk : ∀ (r : Option gV) (mu' : gM), Post r mu' → gG X (pc + 3) lv (r.toList ++ st) mu') : gG X pc lv (as.reverse ++ st) mu := by
  refine g_goOn (a := (as.map (gc (gXal X))).toArray) hOE (fun H locs ls hR hl => ?_) kk
  have cw := va_cnB (args := gXa X) (R := gXR X) (rm := grm d') (mc := 0) (ms := 0) (ret := ret) (bytes := cb) (maxL := maxL) n h.t (gws_good (hcw.1 (.code y cb maxL ret) (by simp))) rfl rfl rfl (hOE.1.1 _ hl1) (h.t _ (hcw.1 _ (by simp))) hcw.2.1 (hrm.fits hdd hcw.2.2)
  have hMd := hM (gXal X) adV (gXdC X) (gXdI X) (gXdA X)
  have hs : (List.map (gc (gXal X)) (as.reverse ++ st)) = (as.map (gc (gXal X))).reverse ++ st.map (gc (gXal X)) := by
    rw [List.map_append, List.map_reverse]
  exact va_runSN (As := as.map (gc (gXal X))) ⟨h.x, h.b, h.n, h.o, h.t⟩ hMd ⟨cw, h.t _ hl2, trivial⟩ ⟨gBlind, fun U hU hW => ⟨rfl, gB_here h hOE hR hU hW⟩⟩ rfl (by rw [List.length_map]; exact hn) hl.1 hs (lv_room (g_sum X st hroom)) hd ⟨Nat.zero_le _, Nat.zero_le _⟩
theorem g_invokevirtualN (h : gOK X) (hOE : gOE X adV) (hrm : gRm X d) (hdd : d' < d) {host : String} {k ci N : Nat} {fs : List gF} {T : u_T}
    (hM : gMet (gXl X) d' y cb maxL ret (gXG X) (gR k :: as) mu Post) (hcw : gcw (gXo X) idx y cb maxL ret n) (hl1 : Cond.methodLinkNest (gXo X) idx y host ∈ gNW) (hl2 : Cond.instanceMethod y ∈ TW) (hl3 : Cond.selects y.cls y y ∈ TW)
    (hk : (gXG X)[k]? = some (.inl (ci, fs))) (hci : vwCl[ci]? = some (y.cls, T, N)) (hn : as.length = n) (hroom : (st.map gcat).sum ≤ 8) (hd : decode (gXy X) pc = .ok (.invokevirtual idx, 3))
    (kk : ∀ (r : Option gV) (mu' : gM), Post r mu' → gG X (pc + 3) lv (r.toList ++ st) mu') : gG X pc lv (as.reverse ++ gR k :: st) mu := by
  refine g_goOn (a := (((gR k :: as) : List gV).map (gc (gXal X))).toArray) hOE (fun H locs ls hR hl => ?_) kk
  have cw := va_cnB (args := gXa X) (R := gXR X) (rm := grm d') (mc := 0) (ms := 0) (ret := ret) (bytes := cb) (maxL := maxL) n h.t (gws_good (hcw.1 (.code y cb maxL ret) (by simp))) rfl rfl rfl (hOE.1.1 _ hl1) (h.t _ (hcw.1 _ (by simp))) hcw.2.1 (hrm.fits hdd hcw.2.2)
  have hMd := hM (gXal X) adV (gXdC X) (gXdI X) (gXdA X)
  have hs : (List.map (gc (gXal X)) (as.reverse ++ gR k :: st)) = (as.map (gc (gXal X))).reverse ++ .ref (gXal X k) :: st.map (gc (gXal X)) := by
    rw [List.map_append, List.map_reverse]
    rfl
  exact va_runVN (b := gXal X k) (As := as.map (gc (gXal X))) ⟨h.x, h.b, h.n, h.o, h.t⟩ hMd ⟨cw, h.t _ hl2, h.t _ hl3⟩ ⟨gBlind, va_recv h.k hR.1 hci (gWX_at hk mu), fun U hU hW => ⟨rfl, gB_here h hOE hR hU hW⟩⟩ rfl (by rw [List.length_map]; exact hn) hl.1 hs (lv_room (g_sum X st hroom)) hd ⟨Nat.zero_le _, Nat.zero_le _⟩
/-- a frame of a method of its own contract -/
def gIn (X : gX) (adV : Nat → Nat) (l : Launch) (d : Nat) (y : MethodName) (cb : ByteArray) (maxL : Nat) (ret : Option FieldType) (G : List gC) (Post : Option gV → gM → Prop) : Prop :=
  gOK X ∧ gOE X adV ∧ gXl X = l ∧ gXR X = grm d ∧ gXG X = G ∧ gXy X = cb ∧ gXn X = maxL ∧ gXo X = y.cls ∧ gXQ X = MQ (gXb X) (gQc (gXG X) (gXal X) adV (gXdC X) (gXdI X) (gXdA X) Post) (gXa X) (gXs X) 0 0 (gA (gXG X) (gXal X)) ∧ (gXh X).sig.returnType = ret ∧ (gXh X).locks = false ∧ gXA X = gA (gXG X) (gXal X)
theorem gQc_here (h : gOK X) (hOE : gOE X adV) (hA : gXA X = gA (gXG X) (gXal X)) {H : Heap} {locs : List Loc} (hR : gRep X mu H locs) {r : Option gV} (hp : Post r mu) {t : State} (ht : t.heap = H) (hW : (gXs X).WarmedH t.vm) :
    gQc (gXG X) (gXal X) adV (gXdC X) (gXdI X) (gXdA X) Post (gXa X) (gXs X) (.returned (r.map (gc (gXal X)))) t :=
  ⟨⟨r, mu, rfl, hp, (gB_here h hOE hR ht hW).1⟩, by rw [← hA]; exact hR.2.F ht⟩
theorem g_ireturn {l : Launch} {G : List gC} {ty : FieldType} {x : Int32} (hI : gIn X adV l d y cb maxL (some ty) G Post) (hn : narrow ty (.int x) = .int x) (hd : decode (gXy X) pc = .ok (.ireturn, 1)) (hp : Post (some (gI x)) mu) : gG X pc lv [gI x] mu := by
  obtain ⟨h, hOE, -, -, -, -, -, -, hQ, hr, hlk, hA⟩ := hI
  intro H locs ls hR hl
  show W _ _ _ _ _ _ _ _ _ _ _ _ _ _ (gXQ X) _
  rw [hQ]
  exact W.zret h.x h.b hr hn (fun t ht hW => gQc_here (r := some (gI x)) h hOE hA hR hp ht hW) (fun q hq => by rw [← hA]; exact hR.2.2.2 q hq) hd hlk
theorem g_lreturn {l : Launch} {G : List gC} {x : Int64} (hI : gIn X adV l d y cb maxL (some .long) G Post) (hd : decode (gXy X) pc = .ok (.lreturn, 1)) (hp : Post (some (gL x)) mu) : gG X pc lv [gL x] mu := by
  obtain ⟨h, hOE, -, -, -, -, -, -, hQ, hr, hlk, hA⟩ := hI
  intro H locs ls hR hl
  show W _ _ _ _ _ _ _ _ _ _ _ _ _ _ (gXQ X) _
  rw [hQ]
  exact W.lret h.x h.b hr (fun t ht hW => gQc_here (r := some (gL x)) h hOE hA hR hp ht hW) (fun q hq => by rw [← hA]; exact hR.2.2.2 q hq) hd hlk
theorem g_areturn {l : Launch} {G : List gC} {o : Option Nat} {nm : String} (hI : gIn X adV l d y cb maxL (some (.object nm)) G Post) (hd : decode (gXy X) pc = .ok (.areturn, 1)) (hp : Post (some (.inr o)) mu) : gG X pc lv [.inr o] mu := by
  obtain ⟨h, hOE, -, -, -, -, -, -, hQ, hr, hlk, hA⟩ := hI
  intro H locs ls hR hl
  show W _ _ _ _ _ _ _ _ _ _ _ _ _ _ (gXQ X) _
  rw [hQ]
  refine W.aret (v := gc (gXal X) (.inr o)) h.x h.b hr (Or.inl ⟨nm, rfl⟩) ?_ (fun t ht hW => gQc_here (r := some (.inr o)) h hOE hA hR hp ht hW) (fun q hq => by rw [← hA]; exact hR.2.2.2 q hq) hd hlk
  cases o with
  | none => exact Or.inl rfl
  | some k => exact Or.inr ⟨_, rfl⟩
theorem g_return {l : Launch} {G : List gC} (hI : gIn X adV l d y cb maxL none G Post) (hd : decode (gXy X) pc = .ok (.return_, 1)) (hp : Post none mu) : gG X pc lv [] mu := by
  obtain ⟨h, hOE, -, -, -, -, -, -, hQ, hr, hlk, hA⟩ := hI
  intro H locs ls hR hl
  show W _ _ _ _ _ _ _ _ _ _ _ _ _ _ (gXQ X) _
  rw [hQ]
  exact W.vret h.x h.b hr (fun t ht hW => gQc_here (r := none) h hOE hA hR hp ht hW) (fun q hq => by rw [← hA]; exact hR.2.2.2 q hq) hd hlk
def gargs : Nat → List gV → List (Nat × gV)
  | _, [] => []
  | i, v :: r => (i, v) :: gargs (i + gcat v) r
theorem gargs_lv (al : Nat → Nat) : ∀ (av : List gV) (i : Nat), lv_args i (av.map (gc al)) = glv al (gargs i av)
  | [], i => rfl
  | v :: r, i => by
    have e : (if (gc al v).category = 2 then i + 2 else i + 1) = i + gcat v := by
      rw [gc_cat]
      rcases v with (x | x) | (_ | k) <;> rfl
    show (i, gc al v) :: lv_args (if (gc al v).category = 2 then i + 2 else i + 1) (r.map (gc al)) = (i, gc al v) :: glv al (gargs (i + gcat v) r)
    rw [e, gargs_lv al r]
theorem lg_sl_len (al : Nat → Nat) : ∀ av : List gV, (lg_sl (av.map (gc al))).length = (av.map gcat).sum
  | [] => rfl
  | v :: r => by
    have h := lg_sl_len al r
    rcases v with (x | x) | (_ | k) <;> simp_all [lg_sl, gc, gcat, Value.category] <;> omega
theorem gMet.of {l : Launch} {G : List gC} {av : List gV} (hy : plainName y.cls = true) (hlen : (av.map gcat).sum ≤ maxL)
    (k : ∀ (X : gX) (adV : Nat → Nat), gIn X adV l d y cb maxL ret G Post → gG X 0 (gargs 0 av) [] mu) : gMet l d y cb maxL ret G av mu Post := by
  intro al adV dC dI dA
  refine Met.ofW (cc := cb) (maxL := maxL) (ret := ret) hy rfl ?_
  intro p e s m args below meth c s₁ B hml hv
  obtain ⟨rfl, ⟨hP, hK, hD⟩, hE⟩ := hv
  have hts := atoms_spec (ws := gws y cb maxL ret) B.pre
  have hown : s.vm.findClass y.cls = some m.cls := findClass_of_methodNamed B.named
  have hk := k (p, l, e, (headSpec (gws y cb maxL ret) (grm d)).room, s, m, (av.map (gc al)).toArray, below, meth, c, MQ below (gQc G al adV dC dI dA Post) (av.map (gc al)).toArray s 0 0 (gA G al), cb, maxL, y.cls, al, dC, dI, dA, gA G al, G) adV
    ⟨⟨B.exec, B.bytes, hml, hown, fun w hw => hts w (List.mem_cons_of_mem _ hw), hK, fun mu' => gD_any hD mu'⟩, ⟨hE, fun q h => h, fun q h => Or.inl h⟩, rfl, rfl, rfl, rfl, rfl, rfl, rfl, B.returns, B.notSynchronized, rfl⟩
  have hl := lv_entry (av.map (gc al)) (n := maxL) (by rw [lg_sl_len]; exact hlen)
  rw [lg_entry_eq]
  generalize (lg_sl (av.map (gc al)) ++ List.replicate (maxL - (lg_sl (av.map (gc al))).length) Slot.unset).toArray = ls at hl ⊢
  rw [gargs_lv] at hl
  exact hk s.heap [] ls ⟨hP, va_S.rf⟩ hl
end GCALL
