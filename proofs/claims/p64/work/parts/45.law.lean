/-! THE LAW'S FRAME: rows -/
/-- the law's frame: its room is used up as far as the claim allows -/
def hG (X : gX) (pc : Nat) (lv : List (Nat × gV)) (st : List gV) (mu : gM) : Prop :=
  ∀ (H : Heap) (locs : List Loc) (ls : Array Slot), gRep X mu H locs → lv_has ls (gXn X) (glv (gXal X) lv) → W (gXp X) (gXl X) (gXe X) (gXR X) (gXs X) (gXm X) (gXa X) (gXb X) (gXh X) (gXc X) H locs 600000 7302249 (gXQ X) (F0 (gXm X) pc ls (st.map (gc (gXal X))))
/-- the script stands at object 999 -/
def hX (X : gX) (L : Nat) (xs : Nat → Int32) : Prop := va_X (gXal X 999) L xs (gXs X) (gXs X).heap ∧ gXal X 999 < (gXs X).heap.size ∧ ¬ gXA X (gXal X 999)
section HROWS
variable {X : gX} {pc : Nat} {lv : List (Nat × gV)} {st : List gV} {mu : gM}
theorem h_aload_n (h : gOK X) {i : Fin 4} {o : Nat} (hd : decode (gXy X) pc = .ok (.aload_n i, 1)) (hi : ((i : Nat), gR o) ∈ lv) (k : hG X (pc + 1) lv (gR o :: st) mu) : hG X pc lv st mu :=
  fun H locs ls hR hl => lv_aload_n h.x h.b hd rfl (glv_at hl hi) (k H locs ls hR hl)
theorem h_iload_n (h : gOK X) {i : Fin 4} {x : Int32} (hd : decode (gXy X) pc = .ok (.iload_n i, 1)) (hi : ((i : Nat), gI x) ∈ lv) (k : hG X (pc + 1) lv (gI x :: st) mu) : hG X pc lv st mu :=
  fun H locs ls hR hl => lv_iload_n h.x h.b hd rfl (glv_at hl hi) (k H locs ls hR hl)
theorem h_iconst (h : gOK X) {n : Int} (hd : decode (gXy X) pc = .ok (.iconst n, 1)) (k : hG X (pc + 1) lv (gI (Int32.ofInt n) :: st) mu) : hG X pc lv st mu :=
  fun H locs ls hR hl => lv_iconst h.x h.b hd rfl (k H locs ls hR hl)
theorem h_bipush (h : gOK X) {n : Int} (hd : decode (gXy X) pc = .ok (.bipush n, 2)) (k : hG X (pc + 2) lv (gI ((Int8.ofInt n).toInt32) :: st) mu) : hG X pc lv st mu :=
  fun H locs ls hR hl => lv_bipush h.x h.b hd rfl (k H locs ls hR hl)
theorem h_iadd (h : gOK X) {x y : Int32} (hd : decode (gXy X) pc = .ok (.iadd, 1)) (k : hG X (pc + 1) lv (gI (x + y) :: st) mu) : hG X pc lv (gI y :: gI x :: st) mu :=
  fun H locs ls hR hl => lv_iadd h.x h.b hd (k H locs ls hR hl)
theorem h_isub (h : gOK X) {x y : Int32} (hd : decode (gXy X) pc = .ok (.isub, 1)) (k : hG X (pc + 1) lv (gI (x - y) :: st) mu) : hG X pc lv (gI y :: gI x :: st) mu :=
  fun H locs ls hR hl => lv_isub h.x h.b hd (k H locs ls hR hl)
theorem h_iand (h : gOK X) {x y : Int32} (hd : decode (gXy X) pc = .ok (.iand, 1)) (k : hG X (pc + 1) lv (gI (x &&& y) :: st) mu) : hG X pc lv (gI y :: gI x :: st) mu :=
  fun H locs ls hR hl => lv_iand h.x h.b hd (k H locs ls hR hl)
theorem h_i2l (h : gOK X) {x : Int32} (hd : decode (gXy X) pc = .ok (.i2l, 1)) (k : hG X (pc + 1) lv (gL x.toInt64 :: st) mu) : hG X pc lv (gI x :: st) mu :=
  fun H locs ls hR hl => lv_i2l h.x h.b hd rfl (k H locs ls hR hl)
theorem h_lshl (h : gOK X) {x : Int64} {y : Int32} (hd : decode (gXy X) pc = .ok (.lshl, 1)) (k : hG X (pc + 1) lv (gL (x <<< (y.toInt64 &&& 63)) :: st) mu) : hG X pc lv (gI y :: gL x :: st) mu :=
  fun H locs ls hR hl => lv_lshl h.x h.b hd rfl (k H locs ls hR hl)
theorem h_land (h : gOK X) {x y : Int64} (hd : decode (gXy X) pc = .ok (.land, 1)) (k : hG X (pc + 1) lv (gL (x &&& y) :: st) mu) : hG X pc lv (gL y :: gL x :: st) mu :=
  fun H locs ls hR hl => lv_land h.x h.b hd (k H locs ls hR hl)
theorem h_lor (h : gOK X) {x y : Int64} (hd : decode (gXy X) pc = .ok (.lor, 1)) (k : hG X (pc + 1) lv (gL (x ||| y) :: st) mu) : hG X pc lv (gL y :: gL x :: st) mu :=
  fun H locs ls hR hl => lv_lor h.x h.b hd (k H locs ls hR hl)
theorem h_ldc2 (h : gOK X) {i : Nat} {v : Int64} (hw : Jvm.Cond.constantLong (gXo X) i v ∈ TW) (hd : decode (gXy X) pc = .ok (.ldc2_w i, 3)) (k : hG X (pc + 3) lv (gL v :: st) mu) : hG X pc lv st mu :=
  fun H locs ls hR hl => lv_ldc2 h.x h.b h.o (h.t _ hw) hd (k H locs ls hR hl)
theorem h_pop (h : gOK X) {v : gV} (hd : decode (gXy X) pc = .ok (.pop, 1)) (hc : gcat v = 1) (k : hG X (pc + 1) lv st mu) : hG X pc lv (v :: st) mu :=
  fun H locs ls hR hl => lv_pop h.x h.b hd (by rw [gc_cat]; exact hc) (k H locs ls hR hl)
theorem h_goto (h : gOK X) {off : Int} {tgt : Nat} (hd : decode (gXy X) pc = .ok (.goto off, 3)) (ht : (pc : Int) + off = (tgt : Int)) (k : hG X tgt lv st mu) : hG X pc lv st mu :=
  fun H locs ls hR hl => lv_goto h.x h.b hd ht (k H locs ls hR hl)
theorem h_icmp_eq (h : gOK X) {x y : Int32} {off : Int} {tgt : Nat} (hd : decode (gXy X) pc = .ok (.if_icmp .eq off, 3)) (ht : (pc : Int) + off = (tgt : Int)) (hxy : x = y) (k : hG X tgt lv st mu) : hG X pc lv (gI y :: gI x :: st) mu :=
  fun H locs ls hR hl => lv_icmp_eq h.x h.b hd ht (fun _ => k H locs ls hR hl) (fun q => absurd hxy q)
theorem h_icmp_gt (h : gOK X) {x y : Int32} {off : Int} {tgt : Nat} (hd : decode (gXy X) pc = .ok (.if_icmp .gt off, 3)) (ht : (pc : Int) + off = (tgt : Int)) (kt : y < x → hG X tgt lv st mu) (kf : ¬ y < x → hG X (pc + 3) lv st mu) : hG X pc lv (gI y :: gI x :: st) mu :=
  fun H locs ls hR hl => lv_icmp_gt h.x h.b hd ht (fun q => kt q H locs ls hR hl) (fun q => kf q H locs ls hR hl)
theorem h_tabIn (h : gOK X) {x : Int32} {dflt lo hi off : Int} {offs : Array Int} {len tgt : Nat} (hd : decode (gXy X) pc = .ok (.tableswitch dflt lo hi offs, len)) (h1 : ¬ x.toInt < lo) (h2 : ¬ hi < x.toInt) (ho : offs[(x.toInt - lo).toNat]? = some off) (ht : (pc : Int) + off = (tgt : Int)) (k : hG X tgt lv st mu) : hG X pc lv (gI x :: st) mu :=
  fun H locs ls hR hl => lv_tableIn h.x h.b hd h1 h2 ho ht (k H locs ls hR hl)
theorem h_istore_n (h : gOK X) {i : Fin 4} {x : Int32} (hd : decode (gXy X) pc = .ok (.istore_n i, 1)) (hn : (i : Nat) < gXn X) (k : hG X (pc + 1) (gst1 lv i (gI x)) st mu) : hG X pc lv (gI x :: st) mu :=
  fun H locs ls hR hl => lv_istore_n h.x h.b hd rfl hl hn (glv_st1 _ lv i (gI x)) (fun ls' hl' => k H locs ls' hR hl')
theorem h_iinc (h : gOK X) {i : Nat} {n : Int} {x : Int32} (hd : decode (gXy X) pc = .ok (.iinc i n, 3)) (hi : (i, gI x) ∈ lv) (hn : i < gXn X) (k : hG X (pc + 3) (gst1 lv i (gI (x + Int32.ofInt n))) st mu) : hG X pc lv st mu := by
  intro H locs ls hR hl
  obtain ⟨j, hj⟩ := List.mem_iff_getElem?.mp (List.mem_map.mpr ⟨(i, gI x), hi, rfl⟩ : (i, Value.int x) ∈ glv (gXal X) lv)
  exact lv_iinc h.x h.b hd hl (k := j) hj rfl hn (glv_st1 _ lv i (gI (x + Int32.ofInt n))) (fun ls' hl' => k H locs ls' hR hl')
theorem h_sld (h : gOK X) {L : Nat} {xs : Nat → Int32} (hx : hX X L xs) {i : Int32} (hin : vp_in i L) (hd : decode (gXy X) pc = .ok (.iaload, 1)) (k : hG X (pc + 1) lv (gI (xs i.toNatClampNeg) :: st) mu) : hG X pc lv (gI i :: gR 999 :: st) mu :=
  fun H locs ls hR hl => va_sld h.x h.b hx.1 hx.2.1 hx.2.2 hR.2 hin hd (k H locs ls hR hl)
theorem h_slen (h : gOK X) {L : Nat} {xs : Nat → Int32} (hx : hX X L xs) (hd : decode (gXy X) pc = .ok (.arraylength, 1)) (k : hG X (pc + 1) lv (gI (nI L) :: st) mu) : hG X pc lv (gR 999 :: st) mu :=
  fun H locs ls hR hl => va_slen h.x h.b hx.1 hx.2.1 hx.2.2 hR.2 hd (k H locs ls hR hl)
theorem h_goOn {adV : Nat → Nat} {st0 : List gV} {Post : Option gV → gM → Prop} {a : Array Value} (hOE : gOE X adV)
    (hr : ∀ (H : Heap) (locs : List Loc) (ls : Array Slot), gRep X mu H locs → lv_has ls (gXn X) (glv (gXal X) lv) → va_Run (gXp X) (gXl X) (gXe X) (gXR X) (gXs X) (gXm X) (gXa X) (gXb X) (gXh X) (gXc X) H locs 600000 7302249 0 0 (F0 (gXm X) pc ls (st0.map (gc (gXal X)))) (st.map (gc (gXal X))) (gQc (gXG X) (gXal X) adV (gXdC X) (gXdI X) (gXdA X) Post a) (gA (gXG X) (gXal X)))
    (kk : ∀ (r : Option gV) (mu' : gM), Post r mu' → hG X (pc + 3) lv (r.toList ++ st) mu') : hG X pc lv st0 mu := by
  intro H locs ls hR hl T hT Xs
  obtain ⟨v, st₀, t, T', L, h0, X', hL, e1, e2, ⟨⟨r, mu', hv, hp, hB⟩, hz, hk⟩, go⟩ := hr H locs ls hR hl T hT Xs
  have hv' : v = r.map (gc (gXal X)) := by
    simp only [Outcome.returned.injEq] at hv
    exact hv
  subst hv'
  rw [h0] at hz hk
  have hS := hR.2
  have k1 := kk r mu' hp T'.heap (locs ++ L) ls ⟨by rw [e1]; exact hB.1, Nat.le_trans hS.1 (by rw [e1]; exact hz), fun q h1 h2 => by
    rw [e1, hk q (Nat.lt_of_lt_of_le h1 hS.1) (fun z => h2 (hOE.2.1 q z))]
    exact hS.2.1 q h1 h2, fun q hq => by
      rcases List.mem_append.mp hq with h | h
      · exact hS.2.2 q h
      · exact hOE.2.1 _ (hL q h)⟩ hl
  have e3 : (r.toList ++ st).map (gc (gXal X)) = (r.map (gc (gXal X))).toList ++ st.map (gc (gXal X)) := by
    cases r <;> simp
  rw [e3] at k1
  obtain ⟨t2, a1, b1⟩ := k1 T' rfl X'
  exact ⟨t2, go t2 a1, b1⟩
theorem h_invokevirtual (h : gOK X) {adV : Nat → Nat} (hOE : gOE X adV) {d' idx maxL n : Nat} {y : MethodName} {cb : ByteArray} {ret : Option FieldType} {Post : Option gV → gM → Prop} {as : List gV} {k ci : Nat} {fs : List gF} {T : u_T} {N : Nat} (hrm : gXR X = room_1) (hdd : d' < 1300)
    (hM : gMet (gXl X) d' y cb maxL ret (gXG X) (gR k :: as) mu Post) (hcw : gcw (gXo X) idx y cb maxL ret n) (hl1 : Cond.methodLink (gXo X) idx y ∈ TW) (hl2 : Cond.instanceMethod y ∈ TW) (hl3 : Cond.selects y.cls y y ∈ TW)
    (hk : (gXG X)[k]? = some (.inl (ci, fs))) (hci : vwCl[ci]? = some (y.cls, T, N)) (hn : as.length = n) (hroom : (st.map gcat).sum ≤ 8) (hd : decode (gXy X) pc = .ok (.invokevirtual idx, 3))
    (kk : ∀ (r : Option gV) (mu' : gM), Post r mu' → hG X (pc + 3) lv (r.toList ++ st) mu') : hG X pc lv (as.reverse ++ gR k :: st) mu := by
  refine h_goOn (a := (((gR k :: as) : List gV).map (gc (gXal X))).toArray) hOE (fun H locs ls hR hl => ?_) kk
  have hT : GoodIn TW (wsV (gXo X) idx y.cls y (gws y cb maxL ret)) := by
    intro w hw
    unfold wsV at hw
    rcases List.mem_append.mp hw with hw | hw
    · refine TW_good w ?_
      simp only [List.mem_cons, List.not_mem_nil, or_false] at hw
      rcases hw with rfl | rfl | rfl | rfl
      · exact hl1
      · exact hl2
      · exact hl3
      · exact hcw.1 _ (by simp)
    · exact gws_good (hcw.1 _ (by simp)) w hw
  have hRoom : (grm d').frames + 1 ≤ (gXR X).frames ∧ 8 + (maxL + 11) + (grm d').locals ≤ (gXR X).locals := by
    have hm := hcw.2.2
    rw [hrm]
    simp only [grm, room_1]
    omega
  have cw := cwV (R := gXR X) (rm := grm d') (mc := 0) (ms := 0) (C := y.cls) n h.t hT rfl rfl rfl ⟨rfl, hcw.2.1⟩ hRoom
  have hMd := hM (gXal X) adV (gXdC X) (gXdI X) (gXdA X)
  have hs : (List.map (gc (gXal X)) (as.reverse ++ gR k :: st)) = (as.map (gc (gXal X))).reverse ++ .ref (gXal X k) :: st.map (gc (gXal X)) := by
    rw [List.map_append, List.map_reverse]
    rfl
  refine va_runV (b := gXal X k) (As := as.map (gc (gXal X))) ⟨h.x, h.b, h.n, h.o, h.t⟩ hMd cw ⟨gBlind, va_recv h.k hR.1 hci (gWX_at hk mu), fun U hU hW => ⟨rfl, gB_here h hOE hR hU hW⟩⟩ rfl (by rw [List.length_map]; exact hn) hl.1 hs (lv_room (g_sum X st hroom)) hd ⟨?_, ?_⟩
  · rw [hrm]
    decide
  · rw [hrm]
    decide
end HROWS
/-- a call that a frame of the law can make -/
def hCal (X : gX) (idx k : Nat) (as : List gV) (mu : gM) (Post : Option gV → gM → Prop) : Prop :=
  ∀ (pc : Nat) (lv : List (Nat × gV)) (st : List gV), decode (gXy X) pc = .ok (.invokevirtual idx, 3) → (st.map gcat).sum ≤ 8 → (∀ (r : Option gV) (mu' : gM), Post r mu' → hG X (pc + 3) lv (r.toList ++ st) mu') → hG X pc lv (as.reverse ++ gR k :: st) mu
theorem hCal.of {X : gX} (h : gOK X) {adV : Nat → Nat} (hOE : gOE X adV) {d' idx maxL n : Nat} {y : MethodName} {cb : ByteArray} {ret : Option FieldType} {Post : Option gV → gM → Prop} {as : List gV} {k ci : Nat} {fs : List gF} {T : u_T} {N : Nat} {mu : gM} (hrm : gXR X = room_1) (hdd : d' < 1300)
    (hM : gMet (gXl X) d' y cb maxL ret (gXG X) (gR k :: as) mu Post) (hcw : gcw (gXo X) idx y cb maxL ret n) (hl1 : Cond.methodLink (gXo X) idx y ∈ TW) (hl2 : Cond.instanceMethod y ∈ TW) (hl3 : Cond.selects y.cls y y ∈ TW)
    (hk : (gXG X)[k]? = some (.inl (ci, fs))) (hci : vwCl[ci]? = some (y.cls, T, N)) (hn : as.length = n) : hCal X idx k as mu Post :=
  fun _ _ _ hd hroom kk => h_invokevirtual h hOE hrm hdd hM hcw hl1 hl2 hl3 hk hci hn hroom hd kk
