/-! STRINGS: length and charAt of the constants, over raw values -/
theorem tw (i : Nat) {w : Cond} (h : tables_1[i]? = some w) (hg : goodWord w = true) : w ∈ TW := TW_in (List.mem_append_right _ (List.mem_of_getElem? h)) hg
set_option maxRecDepth 100000
def rG (X : gX) (pc : Nat) (lv : List (Nat × Value)) (st : List Value) (mu : gM) : Prop :=
  ∀ (H : Heap) (locs : List Loc) (ls : Array Slot), gRep X mu H locs → lv_has ls (gXn X) lv → gWk X H locs (F0 (gXm X) pc ls st)
/-- a contract whose arguments are raw values -/
def rMet (l : Launch) (d : Nat) (y : MethodName) (cb : ByteArray) (maxL : Nat) (ret : Option FieldType) (G : List gC) (avf : (Nat → Nat) → (Nat → Nat) → List Value) (mu : gM) (Post : Option gV → gM → Prop) : Prop :=
  ∀ (al adV : Nat → Nat) (dC : Nat → ClassId) (dI : Nat → Nat → Nat) (dA : Nat → ClassId),
    Met l y (gws y cb maxL ret) (grm d) (va_Pc (avf al adV) (gBE G al adV dC dI dA mu)) (gQc G al adV dC dI dA Post) 0 0 (gA G al)
theorem rMet.of {l : Launch} {d maxL : Nat} {y : MethodName} {cb : ByteArray} {ret : Option FieldType} {G : List gC} {avf : (Nat → Nat) → (Nat → Nat) → List Value} {mu : gM} {Post : Option gV → gM → Prop} (hy : plainName y.cls = true) (hlen : ∀ al adV, (lg_sl (avf al adV)).length ≤ maxL)
    (k : ∀ (X : gX) (adV : Nat → Nat), gIn X adV l d y cb maxL ret G Post → rG X 0 (lv_args 0 (avf (gXal X) adV)) [] mu) : rMet l d y cb maxL ret G avf mu Post := by
  intro al adV dC dI dA
  refine Met.ofW (cc := cb) (maxL := maxL) (ret := ret) hy rfl ?_
  intro p e s m args below meth c s₁ B hml hv
  obtain ⟨rfl, ⟨hP, hK, hD⟩, hE⟩ := hv
  have hts := atoms_spec (ws := gws y cb maxL ret) B.pre
  have hown : s.vm.findClass y.cls = some m.cls := findClass_of_methodNamed B.named
  have hk := k (p, l, e, (headSpec (gws y cb maxL ret) (grm d)).room, s, m, (avf al adV).toArray, below, meth, c, MQ below (gQc G al adV dC dI dA Post) (avf al adV).toArray s 0 0 (gA G al), cb, maxL, y.cls, al, dC, dI, dA, gA G al, G) adV
    ⟨⟨B.exec, B.bytes, hml, hown, fun w hw => hts w (List.mem_cons_of_mem _ hw), hK, fun mu' => gD_any hD mu'⟩, ⟨hE, fun q h => h, fun q h => Or.inl h⟩, rfl, rfl, rfl, rfl, rfl, rfl, rfl, B.returns, B.notSynchronized, rfl⟩
  have hl := lv_entry (avf al adV) (n := maxL) (hlen al adV)
  rw [lg_entry_eq]
  generalize (lg_sl (avf al adV) ++ List.replicate (maxL - (lg_sl (avf al adV)).length) Slot.unset).toArray = ls at hl ⊢
  exact hk s.heap [] ls ⟨hP, va_S.rf⟩ hl
section RROWS
variable {X : gX} {pc : Nat} {lv : List (Nat × Value)} {st : List Value} {mu : gM} {adV : Nat → Nat}
theorem r_aload_n (h : gOK X) {i : Fin 4} {a : Nat} (hd : decode (gXy X) pc = .ok (.aload_n i, 1)) (hi : ((i : Nat), Value.ref a) ∈ lv) (k : rG X (pc + 1) lv (.ref a :: st) mu) : rG X pc lv st mu :=
  fun H locs ls hR hl => lv_aload_n h.x h.b hd rfl (hl.2.2 _ hi) (k H locs ls hR hl)
theorem r_iload_n (h : gOK X) {i : Fin 4} {x : Int32} (hd : decode (gXy X) pc = .ok (.iload_n i, 1)) (hi : ((i : Nat), Value.int x) ∈ lv) (k : rG X (pc + 1) lv (.int x :: st) mu) : rG X pc lv st mu :=
  fun H locs ls hR hl => lv_iload_n h.x h.b hd rfl (hl.2.2 _ hi) (k H locs ls hR hl)
theorem r_iconst (h : gOK X) {n : Int} (hd : decode (gXy X) pc = .ok (.iconst n, 1)) (k : rG X (pc + 1) lv (.int (Int32.ofInt n) :: st) mu) : rG X pc lv st mu :=
  fun H locs ls hR hl => lv_iconst h.x h.b hd rfl (k H locs ls hR hl)
theorem r_sipush (h : gOK X) {n : Int} (hd : decode (gXy X) pc = .ok (.sipush n, 3)) (k : rG X (pc + 3) lv (.int ((Int16.ofInt n).toInt32) :: st) mu) : rG X pc lv st mu :=
  fun H locs ls hR hl => lv_sipush h.x h.b hd rfl (k H locs ls hR hl)
theorem r_iand (h : gOK X) {x y : Int32} (hd : decode (gXy X) pc = .ok (.iand, 1)) (k : rG X (pc + 1) lv (.int (x &&& y) :: st) mu) : rG X pc lv (.int y :: .int x :: st) mu :=
  fun H locs ls hR hl => lv_iand h.x h.b hd (k H locs ls hR hl)
theorem r_ishr (h : gOK X) {x y : Int32} (hd : decode (gXy X) pc = .ok (.ishr, 1)) (k : rG X (pc + 1) lv (.int (x >>> (y &&& 31)) :: st) mu) : rG X pc lv (.int y :: .int x :: st) mu :=
  fun H locs ls hR hl => lv_ishr h.x h.b hd (k H locs ls hR hl)
theorem r_i2c (h : gOK X) {x : Int32} (hd : decode (gXy X) pc = .ok (.i2c, 1)) (k : rG X (pc + 1) lv (.int (x.toUInt32 % 65536).toInt32 :: st) mu) : rG X pc lv (.int x :: st) mu :=
  fun H locs ls hR hl => lv_i2c h.x h.b hd rfl (k H locs ls hR hl)
theorem r_pop (h : gOK X) {v : Value} (hd : decode (gXy X) pc = .ok (.pop, 1)) (hc : v.category = 1) (k : rG X (pc + 1) lv st mu) : rG X pc lv (v :: st) mu :=
  fun H locs ls hR hl => lv_pop h.x h.b hd hc (k H locs ls hR hl)
theorem r_goto (h : gOK X) {off : Int} {tgt : Nat} (hd : decode (gXy X) pc = .ok (.goto off, 3)) (ht : (pc : Int) + off = (tgt : Int)) (k : rG X tgt lv st mu) : rG X pc lv st mu :=
  fun H locs ls hR hl => lv_goto h.x h.b hd ht (k H locs ls hR hl)
theorem r_if_eq (h : gOK X) {x : Int32} {off : Int} {tgt : Nat} (hd : decode (gXy X) pc = .ok (.ifCond .eq off, 3)) (ht : (pc : Int) + off = (tgt : Int)) (kt : x = 0 → rG X tgt lv st mu) (kf : ¬ x = 0 → rG X (pc + 3) lv st mu) : rG X pc lv (.int x :: st) mu :=
  fun H locs ls hR hl => lv_if_eq h.x h.b hd ht (fun q => kt q H locs ls hR hl) (fun q => kf q H locs ls hR hl)
theorem r_if_ne (h : gOK X) {x : Int32} {off : Int} {tgt : Nat} (hd : decode (gXy X) pc = .ok (.ifCond .ne off, 3)) (ht : (pc : Int) + off = (tgt : Int)) (kt : ¬ x = 0 → rG X tgt lv st mu) (kf : x = 0 → rG X (pc + 3) lv st mu) : rG X pc lv (.int x :: st) mu :=
  fun H locs ls hR hl => lv_if_ne h.x h.b hd ht (fun q => kt q H locs ls hR hl) (fun q => kf q H locs ls hR hl)
theorem r_if_lt (h : gOK X) {x : Int32} {off : Int} {tgt : Nat} (hd : decode (gXy X) pc = .ok (.ifCond .lt off, 3)) (ht : (pc : Int) + off = (tgt : Int)) (kt : x < 0 → rG X tgt lv st mu) (kf : ¬ x < 0 → rG X (pc + 3) lv st mu) : rG X pc lv (.int x :: st) mu :=
  fun H locs ls hR hl => lv_if_lt h.x h.b hd ht (fun q => kt q H locs ls hR hl) (fun q => kf q H locs ls hR hl)
theorem r_icmp_lt (h : gOK X) {x y : Int32} {off : Int} {tgt : Nat} (hd : decode (gXy X) pc = .ok (.if_icmp .lt off, 3)) (ht : (pc : Int) + off = (tgt : Int)) (kt : x < y → rG X tgt lv st mu) (kf : ¬ x < y → rG X (pc + 3) lv st mu) : rG X pc lv (.int y :: .int x :: st) mu :=
  fun H locs ls hR hl => lv_icmp_lt h.x h.b hd ht (fun q => kt q H locs ls hR hl) (fun q => kf q H locs ls hR hl)
theorem r_gets (h : gOK X) {C n d : String} {v : Value} {index : Nat} (hZ : va_Z C n d v (gXA X) (gXs X) (gXs X).heap) (hw : Jvm.Cond.fieldLink (gXo X) index C n d ∈ TW) (hd : decode (gXy X) pc = .ok (.getstatic index, 3)) (k : rG X (pc + 3) lv (v :: st) mu) : rG X pc lv st mu :=
  fun H locs ls hR hl => va_gets h.x h.b hZ hR.2 h.o (h.t _ hw) (fun _ z => z) hd (k H locs ls hR hl)
theorem r_getf (h : gOK X) {C n d : String} {v : Value} {index q : Nat} (hE : va_OF C n d v q (gXA X) (gXs X) (gXs X).heap) (hw : Jvm.Cond.fieldLink (gXo X) index C n d ∈ TW) (hd : decode (gXy X) pc = .ok (.getfield index, 3)) (k : rG X (pc + 3) lv (v :: st) mu) : rG X pc lv (.ref q :: st) mu :=
  fun H locs ls hR hl => vk_getf h.x h.b hE hR.2 h.o (h.t _ hw) (fun _ z => z) hd (k H locs ls hR hl)
theorem r_tlen (h : gOK X) {ty : FieldType} {t N : Nat} {f : Nat → Value} (hT : va_T ty t N f (gXA X) (gXs X) (gXs X).heap) (hd : decode (gXy X) pc = .ok (.arraylength, 1)) (k : rG X (pc + 1) lv (.int (Int32.ofNat N) :: st) mu) : rG X pc lv (.ref t :: st) mu :=
  fun H locs ls hR hl => va_tlen h.x h.b hT hR.2 rfl hd (k H locs ls hR hl)
theorem r_tb (h : gOK X) {t N : Nat} {f : Nat → Value} {i : Int32} (hT : va_T .byte t N f (gXA X) (gXs X) (gXs X).heap) (hin : vp_in i N) (hd : decode (gXy X) pc = .ok (.baload, 1)) (k : rG X (pc + 1) lv (f i.toNatClampNeg :: st) mu) : rG X pc lv (.int i :: .ref t :: st) mu :=
  fun H locs ls hR hl => va_tb h.x h.b hT hR.2 hin rfl hd (k H locs ls hR hl)
theorem r_goOn {st0 : List Value} {Post : Option gV → gM → Prop} {a : Array Value} (hOE : gOE X adV)
    (hr : ∀ (H : Heap) (locs : List Loc) (ls : Array Slot), gRep X mu H locs → lv_has ls (gXn X) lv → va_Run (gXp X) (gXl X) (gXe X) (gXR X) (gXs X) (gXm X) (gXa X) (gXb X) (gXh X) (gXc X) H locs 0 0 0 0 (F0 (gXm X) pc ls st0) st (gQc (gXG X) (gXal X) adV (gXdC X) (gXdI X) (gXdA X) Post a) (gA (gXG X) (gXal X)))
    (kk : ∀ (r : Option gV) (mu' : gM), Post r mu' → rG X (pc + 3) lv ((r.map (gc (gXal X))).toList ++ st) mu') : rG X pc lv st0 mu := by
  intro H locs ls hR hl T hT Xs
  obtain ⟨v, st₀, t, T', L, h0, X', hL, e1, e2, ⟨⟨r, mu', hv, hp, hB⟩, hz, hk⟩, go⟩ := hr H locs ls hR hl T hT Xs
  have hv' : v = r.map (gc (gXal X)) := by
    simp only [Outcome.returned.injEq] at hv
    exact hv
  subst hv'
  rw [h0] at hz hk
  have hS := hR.2
  have k1 := kk r mu' hp T'.heap (locs ++ L) ls ⟨by rw [e1]; exact hB.1, Nat.le_trans hS.1 (by rw [e1]; exact hz), fun q h1 h2 => by
    rw [e1, hk q (Nat.lt_of_lt_of_le h1 hS.1) (fun z => h2 (hOE.2.1 q z))]
    exact hS.2.1 q h1 h2, fun q hq => by
      rcases List.mem_append.mp hq with h | h
      · exact hS.2.2 q h
      · exact hOE.2.1 _ (hL q h)⟩ hl
  obtain ⟨t2, a1, b1⟩ := k1 T' rfl X'
  exact ⟨t2, go t2 a1, b1⟩
theorem r_invokestatic {d d' idx maxL n : Nat} {y : MethodName} {cb : ByteArray} {ret : Option FieldType} {Post : Option gV → gM → Prop} {avf : (Nat → Nat) → (Nat → Nat) → List Value} {st0 : List Value} (h : gOK X) (hOE : gOE X adV) (hrm : gRm X d) (hdd : d' < d)
    (hM : rMet (gXl X) d' y cb maxL ret (gXG X) avf mu Post) (hcw : gcw (gXo X) idx y cb maxL ret n) (hl1 : Cond.methodLink (gXo X) idx y ∈ TW) (hl2 : Cond.static y ∈ TW)
    (hs : st0 = (avf (gXal X) adV).reverse ++ st) (hn : (avf (gXal X) adV).length = n) (hroom : (st.map fun v => v.category).sum ≤ 8) (hd : decode (gXy X) pc = .ok (.invokestatic idx, 3))
    (kk : ∀ (r : Option gV) (mu' : gM), Post r mu' → rG X (pc + 3) lv ((r.map (gc (gXal X))).toList ++ st) mu') : rG X pc lv st0 mu := by
  subst hs
  refine r_goOn (a := (avf (gXal X) adV).toArray) hOE (fun H locs ls hR hl => ?_) kk
  have hT : GoodIn TW (va_wsS (gXo X) idx y (gws y cb maxL ret)) := by
    intro w hw
    unfold va_wsS at hw
    rcases List.mem_append.mp hw with hw | hw
    · refine TW_good w ?_
      simp only [List.mem_cons, List.not_mem_nil, or_false] at hw
      rcases hw with rfl | rfl | rfl
      · exact hl1
      · exact hl2
      · exact hcw.1 _ (by simp)
    · exact gws_good (hcw.1 _ (by simp)) w hw
  have cw := va_cwS (R := gXR X) (rm := grm d') (mc := 0) (ms := 0) n h.t hT rfl rfl rfl hcw.2.1 (hrm.fits hdd hcw.2.2)
  have hMd := hM (gXal X) adV (gXdC X) (gXdI X) (gXdA X)
  exact va_runS (As := avf (gXal X) adV) ⟨h.x, h.b, h.n, h.o, h.t⟩ hMd cw ⟨gBlind, fun U hU hW => ⟨rfl, gB_here h hOE hR hU hW⟩⟩ rfl hn hl.1 rfl (lv_room hroom) hd ⟨Nat.zero_le _, Nat.zero_le _⟩
/-- a call of a method of String's on constant j -/
theorem r_invokeS {d d' idx maxL : Nat} {y : MethodName} {cb : ByteArray} {ret : Option FieldType} {Post : Option gV → gM → Prop} {j n : Nat} {as : List gV} {st0 : List Value} (h : gOK X) (hOE : gOE X adV) (hA : gXA X = gA (gXG X) (gXal X)) (hrm : gRm X d) (hdd : d' < d) (hj : j < 14)
    (hM : gMet (gXl X) d' y cb maxL ret (gXG X) (gR (1000 + j) :: as) mu Post) (hc : y.cls = "java/lang/String") (hcw : gcw (gXo X) idx y cb maxL ret n) (hl1 : Cond.methodLink (gXo X) idx y ∈ TW) (hl2 : Cond.instanceMethod y ∈ TW) (hl3 : Cond.selects y.cls y y ∈ TW)
    (hs : st0 = (as.map (gc (gXal X))).reverse ++ .ref (gXal X (1000 + j)) :: st) (hn : as.length = n) (hroom : (st.map fun v => v.category).sum ≤ 8) (hd : decode (gXy X) pc = .ok (.invokevirtual idx, 3))
    (kk : ∀ (r : Option gV) (mu' : gM), Post r mu' → rG X (pc + 3) lv ((r.map (gc (gXal X))).toList ++ st) mu') : rG X pc lv st0 mu := by
  subst hs
  refine r_goOn (a := (((gR (1000 + j) :: as) : List gV).map (gc (gXal X))).toArray) hOE (fun H locs ls hR hl => ?_) kk
  have hT : GoodIn TW (wsV (gXo X) idx y.cls y (gws y cb maxL ret)) := by
    intro w hw
    unfold wsV at hw
    rcases List.mem_append.mp hw with hw | hw
    · refine TW_good w ?_
      simp only [List.mem_cons, List.not_mem_nil, or_false] at hw
      rcases hw with rfl | rfl | rfl | rfl
      · exact hl1
      · exact hl2
      · exact hl3
      · exact hcw.1 _ (by simp)
    · exact gws_good (hcw.1 _ (by simp)) w hw
  have cw := cwV (R := gXR X) (rm := grm d') (mc := 0) (ms := 0) (C := y.cls) n h.t hT rfl rfl rfl ⟨rfl, hcw.2.1⟩ (hrm.fits hdd hcw.2.2)
  have hMd := hM (gXal X) adV (gXdC X) (gXdI X) (gXdA X)
  have hE := hOE.1.2.1
  rw [← hA] at hE
  have hrec := vk_recv hE hj hR.2
  rw [← hc] at hrec
  exact va_runV (b := gXal X (1000 + j)) (As := as.map (gc (gXal X))) ⟨h.x, h.b, h.n, h.o, h.t⟩ hMd cw ⟨gBlind, hrec, fun U hU hW => ⟨rfl, gB_here h hOE hR hU hW⟩⟩ rfl (by rw [List.length_map]; exact hn) hl.1 rfl (lv_room hroom) hd ⟨Nat.zero_le _, Nat.zero_le _⟩
theorem r_ireturn {l : Launch} {d maxL : Nat} {y : MethodName} {cb : ByteArray} {Post : Option gV → gM → Prop} {G : List gC} {ty : FieldType} {x : Int32} (hI : gIn X adV l d y cb maxL (some ty) G Post) (hn : narrow ty (.int x) = .int x) (hd : decode (gXy X) pc = .ok (.ireturn, 1)) (hp : Post (some (gI x)) mu) : rG X pc lv [.int x] mu := by
  obtain ⟨h, hOE, -, -, -, -, -, -, hQ, hr, hlk, hA⟩ := hI
  intro H locs ls hR hl
  show W _ _ _ _ _ _ _ _ _ _ _ _ _ _ (gXQ X) _
  rw [hQ]
  exact W.zret h.x h.b hr hn (fun t ht hW => gQc_here (r := some (gI x)) h hOE hA hR hp ht hW) (fun q hq => by rw [← hA]; exact hR.2.2.2 q hq) hd hlk
theorem r_return {l : Launch} {d maxL : Nat} {y : MethodName} {cb : ByteArray} {Post : Option gV → gM → Prop} {G : List gC} (hI : gIn X adV l d y cb maxL none G Post) (hd : decode (gXy X) pc = .ok (.return_, 1)) (hp : Post none mu) : rG X pc lv [] mu := by
  obtain ⟨h, hOE, -, -, -, -, -, -, hQ, hr, hlk, hA⟩ := hI
  intro H locs ls hR hl
  show W _ _ _ _ _ _ _ _ _ _ _ _ _ _ (gXQ X) _
  rw [hQ]
  exact W.vret h.x h.b hr (fun t ht hW => gQc_here (r := none) h hOE hA hR hp ht hW) (fun q hq => by rw [← hA]; exact hR.2.2.2 q hq) hd hlk
end RROWS
/-- what gIn says of strings -/
theorem gIn.str {X : gX} {adV : Nat → Nat} {l : Launch} {d : Nat} {y : MethodName} {cb : ByteArray} {maxL : Nat} {ret : Option FieldType} {G : List gC} {Post : Option gV → gM → Prop} (hI : gIn X adV l d y cb maxL ret G Post) :
    vk_S 14 gLen gByt (gK (gXal X)) adV (gXA X) (gXs X) (gXs X).heap ∧ va_Z "java/lang/String" "COMPACT_STRINGS" "Z" (.int 1) (gXA X) (gXs X) (gXs X).heap ∧ va_Zq "jdk/internal/util/Preconditions" "SIOOBE_FORMATTER" "Ljava/util/function/BiFunction;" (gXA X) (gXs X) (gXs X).heap := by
  obtain ⟨-, hOE, -, -, -, -, -, -, -, -, -, hA⟩ := hI
  rw [hA]
  exact ⟨hOE.1.2.1, hOE.1.2.2.2.1, hOE.1.2.2.2.2⟩
def chJ (j i : Nat) : Int32 := (gByt.getD j []).getD i 0
theorem coder_ok (l : Launch) (d : Nat) {j : Nat} (hj : j < 14) (mu : gM) : gMet l d yJ0_coder_7d493 cJ0_coder_7d493 1 (some .byte) kG [gR (1000 + j)] mu (fun r mu' => r = some (gI 0) ∧ mu' = mu) := by
  refine rMet.of (avf := fun al _ => [gR (1000 + j)].map (gc al)) (by decide) (fun _ _ => by exact Nat.le_refl 1) (fun X adV hI => ?_)
  have hI' := hI
  obtain ⟨h, hOE, hl, hR, hG, hy, hn, ho, hQ, hr, hlk, hA⟩ := hI'
  obtain ⟨hS, hZ, -⟩ := hI.str
  refine r_gets h hZ (by rw [ho]; exact tw 471 rfl rfl) (by rw [hy]; exact (by decide +kernel : decode cJ0_coder_7d493 0 = .ok (.getstatic 38, 3))) ?_
  refine r_if_eq (tgt := 13) h (by rw [hy]; exact (by decide +kernel : decode cJ0_coder_7d493 3 = .ok (.ifCond .eq 10, 3))) (by decide) (fun q => absurd q (by decide)) (fun _ => ?_)
  refine r_aload_n (a := gXal X (1000 + j)) h (by rw [hy]; exact (by decide +kernel : decode cJ0_coder_7d493 6 = .ok (.aload_n 0, 1))) List.mem_cons_self ?_
  refine r_getf h (hS.1 j hj).2.1 (by rw [ho]; exact tw 1893 rfl rfl) (by rw [hy]; exact (by decide +kernel : decode cJ0_coder_7d493 7 = .ok (.getfield 15, 3))) ?_
  refine r_goto (tgt := 14) h (by rw [hy]; exact (by decide +kernel : decode cJ0_coder_7d493 10 = .ok (.goto 4, 3))) (by decide) ?_
  exact r_ireturn hI rfl (by rw [hy]; exact (by decide +kernel : decode cJ0_coder_7d493 14 = .ok (.ireturn, 1))) ⟨rfl, rfl⟩
theorem latin_ok (l : Launch) (d : Nat) {j : Nat} (hj : j < 14) (mu : gM) : gMet l d yJ0_isLatin1_aae02 cJ0_isLatin1_aae02 1 (some .boolean) kG [gR (1000 + j)] mu (fun r mu' => r = some (gI 1) ∧ mu' = mu) := by
  refine rMet.of (avf := fun al _ => [gR (1000 + j)].map (gc al)) (by decide) (fun _ _ => by exact Nat.le_refl 1) (fun X adV hI => ?_)
  have hI' := hI
  obtain ⟨h, hOE, hl, hR, hG, hy, hn, ho, hQ, hr, hlk, hA⟩ := hI'
  obtain ⟨hS, hZ, -⟩ := hI.str
  refine r_gets h hZ (by rw [ho]; exact tw 471 rfl rfl) (by rw [hy]; exact (by decide +kernel : decode cJ0_isLatin1_aae02 0 = .ok (.getstatic 38, 3))) ?_
  refine r_if_eq (tgt := 17) h (by rw [hy]; exact (by decide +kernel : decode cJ0_isLatin1_aae02 3 = .ok (.ifCond .eq 14, 3))) (by decide) (fun q => absurd q (by decide)) (fun _ => ?_)
  refine r_aload_n (a := gXal X (1000 + j)) h (by rw [hy]; exact (by decide +kernel : decode cJ0_isLatin1_aae02 6 = .ok (.aload_n 0, 1))) List.mem_cons_self ?_
  refine r_getf h (hS.1 j hj).2.1 (by rw [ho]; exact tw 1893 rfl rfl) (by rw [hy]; exact (by decide +kernel : decode cJ0_isLatin1_aae02 7 = .ok (.getfield 15, 3))) ?_
  refine r_if_ne (tgt := 17) h (by rw [hy]; exact (by decide +kernel : decode cJ0_isLatin1_aae02 10 = .ok (.ifCond .ne 7, 3))) (by decide) (fun q => absurd rfl q) (fun _ => ?_)
  refine r_iconst h (by rw [hy]; exact (by decide +kernel : decode cJ0_isLatin1_aae02 13 = .ok (.iconst 1, 1))) ?_
  refine r_goto (tgt := 18) h (by rw [hy]; exact (by decide +kernel : decode cJ0_isLatin1_aae02 14 = .ok (.goto 4, 3))) (by decide) ?_
  exact r_ireturn hI rfl (by rw [hy]; exact (by decide +kernel : decode cJ0_isLatin1_aae02 18 = .ok (.ireturn, 1))) ⟨rfl, rfl⟩
theorem pre_ok (l : Launch) (d : Nat) {i n : Int32} {v : Value} (hv : v = .null ∨ ∃ t, v = .ref t) (h0 : ¬ i < 0) (h1 : i < n) (mu : gM) : rMet l d yJ3_checkIndex_8e157 cJ3_checkIndex_8e157 3 (some .int) kG (fun _ _ => [.int i, .int n, v]) mu (fun r mu' => r = some (gI i) ∧ mu' = mu) := by
  refine rMet.of (by decide) (fun _ _ => by rcases hv with rfl | ⟨t, rfl⟩ <;> exact Nat.le_refl 3) (fun X adV hI => ?_)
  have hI' := hI
  obtain ⟨h, hOE, hl, hR, hG, hy, hn, ho, hQ, hr, hlk, hA⟩ := hI'
  refine r_iload_n (x := i) h (by rw [hy]; exact (by decide +kernel : decode cJ3_checkIndex_8e157 0 = .ok (.iload_n 0, 1))) List.mem_cons_self ?_
  refine r_if_lt (tgt := 9) h (by rw [hy]; exact (by decide +kernel : decode cJ3_checkIndex_8e157 1 = .ok (.ifCond .lt 8, 3))) (by decide) (fun q => absurd q h0) (fun _ => ?_)
  refine r_iload_n (x := i) h (by rw [hy]; exact (by decide +kernel : decode cJ3_checkIndex_8e157 4 = .ok (.iload_n 0, 1))) List.mem_cons_self ?_
  refine r_iload_n (x := n) h (by rw [hy]; exact (by decide +kernel : decode cJ3_checkIndex_8e157 5 = .ok (.iload_n 1, 1))) (List.mem_cons_of_mem _ List.mem_cons_self) ?_
  refine r_icmp_lt (tgt := 16) h (by rw [hy]; exact (by decide +kernel : decode cJ3_checkIndex_8e157 6 = .ok (.if_icmp .lt 10, 3))) (by decide) (fun _ => ?_) (fun q => absurd h1 q)
  refine r_iload_n (x := i) h (by rw [hy]; exact (by decide +kernel : decode cJ3_checkIndex_8e157 16 = .ok (.iload_n 0, 1))) List.mem_cons_self ?_
  exact r_ireturn hI rfl (by rw [hy]; exact (by decide +kernel : decode cJ3_checkIndex_8e157 17 = .ok (.ireturn, 1))) ⟨rfl, rfl⟩
theorem sci_ok (l : Launch) (d : Nat) {i n : Int32} (h0 : ¬ i < 0) (h1 : i < n) (mu : gM) : gMet l (d + 1) yJ0_checkIndex_df160 cJ0_checkIndex_df160 2 none kG [gI i, gI n] mu (fun r mu' => r = none ∧ mu' = mu) := by
  refine rMet.of (avf := fun al _ => [gI i, gI n].map (gc al)) (by decide) (fun _ _ => by exact Nat.le_refl 2) (fun X adV hI => ?_)
  have hI' := hI
  obtain ⟨h, hOE, hl, hR, hG, hy, hn, ho, hQ, hr, hlk, hA⟩ := hI'
  obtain ⟨-, -, hZ⟩ := hI.str
  refine r_iload_n (x := i) h (by rw [hy]; exact (by decide +kernel : decode cJ0_checkIndex_df160 0 = .ok (.iload_n 0, 1))) List.mem_cons_self ?_
  refine r_iload_n (x := n) h (by rw [hy]; exact (by decide +kernel : decode cJ0_checkIndex_df160 1 = .ok (.iload_n 1, 1))) (List.mem_cons_of_mem _ List.mem_cons_self) ?_
  obtain ⟨v, hv, hZv⟩ : ∃ v : Value, (v = .null ∨ ∃ t, v = .ref t) ∧ va_Z "jdk/internal/util/Preconditions" "SIOOBE_FORMATTER" "Ljava/util/function/BiFunction;" v (gXA X) (gXs X) (gXs X).heap := by
    rcases hZ with hZ | ⟨t, hZ⟩
    · exact ⟨_, .inl rfl, hZ⟩
    · exact ⟨_, .inr ⟨t, rfl⟩, hZ⟩
  refine r_gets h hZv (by rw [ho]; exact tw 487 rfl rfl) (by rw [hy]; exact (by decide +kernel : decode cJ0_checkIndex_df160 2 = .ok (.getstatic 1053, 3))) ?_
  refine r_invokestatic (st := []) (n := 3) (d' := d) h hOE (.inl hR) (Nat.lt_succ_self _) (by rw [hl, hG]; exact pre_ok l d hv h0 h1 mu) ⟨fun w hw => ?_, by decide, by decide⟩ (by rw [ho]; exact tw 489 rfl rfl) (tw 490 rfl rfl) rfl rfl (by decide) (by rw [hy]; exact (by decide +kernel : decode cJ0_checkIndex_df160 5 = .ok (.invokestatic 1059, 3))) (fun r mu' hp => ?_)
  · simp only [List.mem_cons, List.not_mem_nil, or_false] at hw
    rcases hw with rfl | rfl
    · exact tw 491 rfl rfl
    · exact tw 16 rfl rfl
  · obtain ⟨rfl, rfl⟩ := hp
    refine r_pop (v := .int i) h (by rw [hy]; exact (by decide +kernel : decode cJ0_checkIndex_df160 8 = .ok (.pop, 1))) rfl ?_
    exact r_return hI (by rw [hy]; exact (by decide +kernel : decode cJ0_checkIndex_df160 9 = .ok (.return_, 1))) ⟨rfl, rfl⟩
theorem chJ_ok : ∀ j, j < 14 → ∀ i, i < gLen.getD j 0 → (((chJ j i &&& (Int16.ofInt 255).toInt32).toUInt32 % 65536).toInt32 = chJ j i ∧ narrow .char (.int (chJ j i)) = .int (chJ j i) ∧ 97 ≤ (chJ j i).toInt ∧ (chJ j i).toInt ≤ 122) := by decide +kernel
theorem lenJ_ok : ∀ j, j < 14 → gLen.getD j 0 < 10 := by decide +kernel
theorem l1_ok (l : Launch) (d : Nat) {j : Nat} (hj : j < 14) {i : Nat} (hi : i < gLen.getD j 0) (mu : gM) : rMet l (d + 2) yJ1_charAt_3b067 cJ1_charAt_3b067 2 (some .char) kG (fun _ adV => [.ref (adV j), .int (nI i)]) mu (fun r mu' => r = some (gI (chJ j i)) ∧ mu' = mu) := by
  have h10 := lenJ_ok j hj
  have hin : vp_in (nI i) (gLen.getD j 0) := vp_in_nI hi (by omega)
  have e1 : (nI i).toInt = (i : Int) := nI_toInt (by omega)
  have e2 : (Int32.ofNat (gLen.getD j 0)).toInt = ((gLen.getD j 0 : Nat) : Int) := nI_toInt (by omega)
  refine rMet.of (by decide) (fun _ _ => by exact Nat.le_refl 2) (fun X adV hI => ?_)
  have hI' := hI
  obtain ⟨h, hOE, hl, hR, hG, hy, hn, ho, hQ, hr, hlk, hA⟩ := hI'
  obtain ⟨hS, -, -⟩ := hI.str
  have hT := (hS.1 j hj).2.2.2
  refine r_iload_n (x := nI i) h (by rw [hy]; exact (by decide +kernel : decode cJ1_charAt_3b067 0 = .ok (.iload_n 1, 1))) (List.mem_cons_of_mem _ List.mem_cons_self) ?_
  refine r_aload_n (a := adV j) h (by rw [hy]; exact (by decide +kernel : decode cJ1_charAt_3b067 1 = .ok (.aload_n 0, 1))) List.mem_cons_self ?_
  refine r_tlen h hT (by rw [hy]; exact (by decide +kernel : decode cJ1_charAt_3b067 2 = .ok (.arraylength, 1))) ?_
  refine r_invokestatic (st := []) (n := 2) (d' := d + 1) (avf := fun al _ => [gI (nI i), gI (Int32.ofNat (gLen.getD j 0))].map (gc al)) h hOE (.inl hR) (Nat.lt_succ_self _) (by rw [hl, hG]; exact sci_ok l d (by rw [Int32.lt_iff_toInt_lt, e1, Int32.toInt_zero]; omega) (by rw [Int32.lt_iff_toInt_lt, e1, e2]; omega) mu) ⟨fun w hw => ?_, by decide, by decide⟩ (by rw [ho]; exact tw 484 rfl rfl) (tw 485 rfl rfl) rfl rfl (by decide) (by rw [hy]; exact (by decide +kernel : decode cJ1_charAt_3b067 3 = .ok (.invokestatic 9, 3))) (fun r mu' hp => ?_)
  · simp only [List.mem_cons, List.not_mem_nil, or_false] at hw
    rcases hw with rfl | rfl
    · exact tw 486 rfl rfl
    · exact tw 14 rfl rfl
  · obtain ⟨rfl, rfl⟩ := hp
    refine r_aload_n (a := adV j) h (by rw [hy]; exact (by decide +kernel : decode cJ1_charAt_3b067 6 = .ok (.aload_n 0, 1))) List.mem_cons_self ?_
    refine r_iload_n (x := nI i) h (by rw [hy]; exact (by decide +kernel : decode cJ1_charAt_3b067 7 = .ok (.iload_n 1, 1))) (List.mem_cons_of_mem _ List.mem_cons_self) ?_
    refine r_tb h hT hin (by rw [hy]; exact (by decide +kernel : decode cJ1_charAt_3b067 8 = .ok (.baload, 1))) ?_
    have ec : (gByt.getD j []).getD (nI i).toNatClampNeg 0 = chJ j i := by rw [nI_clamp (by omega)]; rfl
    show rG X (8 + 1) _ [.int ((gByt.getD j []).getD (nI i).toNatClampNeg 0)] mu'
    rw [ec]
    obtain ⟨q1, q2, -⟩ := chJ_ok j hj i hi
    refine r_sipush h (by rw [hy]; exact (by decide +kernel : decode cJ1_charAt_3b067 9 = .ok (.sipush 255, 3))) ?_
    refine r_iand h (by rw [hy]; exact (by decide +kernel : decode cJ1_charAt_3b067 12 = .ok (.iand, 1))) ?_
    refine r_i2c h (by rw [hy]; exact (by decide +kernel : decode cJ1_charAt_3b067 13 = .ok (.i2c, 1))) ?_
    rw [q1]
    exact r_ireturn hI q2 (by rw [hy]; exact (by decide +kernel : decode cJ1_charAt_3b067 14 = .ok (.ireturn, 1))) ⟨rfl, rfl⟩
/-- charAt of constant j at i -/
theorem charAt_ok (l : Launch) (d : Nat) {j : Nat} (hj : j < 14) {i : Nat} (hi : i < gLen.getD j 0) (mu : gM) : gMet l (d + 3) yJ0_charAt_5068e cJ0_charAt_5068e 2 (some .char) kG [gR (1000 + j), gI (nI i)] mu (fun r mu' => r = some (gI (chJ j i)) ∧ mu' = mu) := by
  refine rMet.of (avf := fun al _ => [gR (1000 + j), gI (nI i)].map (gc al)) (by decide) (fun _ _ => by exact Nat.le_refl 2) (fun X adV hI => ?_)
  have hI' := hI
  obtain ⟨h, hOE, hl, hR, hG, hy, hn, ho, hQ, hr, hlk, hA⟩ := hI'
  obtain ⟨hS, -, -⟩ := hI.str
  refine r_aload_n (a := gXal X (1000 + j)) h (by rw [hy]; exact (by decide +kernel : decode cJ0_charAt_5068e 0 = .ok (.aload_n 0, 1))) List.mem_cons_self ?_
  refine r_invokeS (st := []) (as := []) (n := 0) (d' := d) h hOE hA (.inl hR) (by omega) hj (by rw [hl, hG]; exact latin_ok l d hj mu) rfl ⟨fun w hw => ?_, by decide, by decide⟩ (by rw [ho]; exact tw 477 rfl rfl) (tw 478 rfl rfl) (tw 479 rfl rfl) rfl rfl (by decide) (by rw [hy]; exact (by decide +kernel : decode cJ0_charAt_5068e 1 = .ok (.invokevirtual 492, 3))) (fun r mu' hp => ?_)
  · simp only [List.mem_cons, List.not_mem_nil, or_false] at hw
    rcases hw with rfl | rfl
    · exact tw 480 rfl rfl
    · exact tw 14 rfl rfl
  obtain ⟨rfl, rfl⟩ := hp
  refine r_if_eq (x := 1) (tgt := 16) h (by rw [hy]; exact (by decide +kernel : decode cJ0_charAt_5068e 4 = .ok (.ifCond .eq 12, 3))) (by decide) (fun q => absurd q (by decide)) (fun _ => ?_)
  refine r_aload_n (a := gXal X (1000 + j)) h (by rw [hy]; exact (by decide +kernel : decode cJ0_charAt_5068e 7 = .ok (.aload_n 0, 1))) List.mem_cons_self ?_
  refine r_getf h (hS.1 j hj).2.2.1 (by rw [ho]; exact tw 1892 rfl rfl) (by rw [hy]; exact (by decide +kernel : decode cJ0_charAt_5068e 8 = .ok (.getfield 9, 3))) ?_
  refine r_iload_n (x := nI i) h (by rw [hy]; exact (by decide +kernel : decode cJ0_charAt_5068e 11 = .ok (.iload_n 1, 1))) (List.mem_cons_of_mem _ List.mem_cons_self) ?_
  refine r_invokestatic (st := []) (n := 2) (d' := d + 2) h hOE (.inl hR) (Nat.lt_succ_self _) (by rw [hl, hG]; exact l1_ok l d hj hi mu') ⟨fun w hw => ?_, by decide, by decide⟩ (by rw [ho]; exact tw 481 rfl rfl) (tw 482 rfl rfl) rfl rfl (by decide) (by rw [hy]; exact (by decide +kernel : decode cJ0_charAt_5068e 12 = .ok (.invokestatic 495, 3))) (fun r mu'' hp => ?_)
  · simp only [List.mem_cons, List.not_mem_nil, or_false] at hw
    rcases hw with rfl | rfl
    · exact tw 483 rfl rfl
    · exact tw 15 rfl rfl
  obtain ⟨rfl, rfl⟩ := hp
  obtain ⟨-, q2, -⟩ := chJ_ok j hj i hi
  exact r_ireturn hI q2 (by rw [hy]; exact (by decide +kernel : decode cJ0_charAt_5068e 15 = .ok (.ireturn, 1))) ⟨rfl, rfl⟩
/-- length of constant j -/
theorem length_ok (l : Launch) (d : Nat) {j : Nat} (hj : j < 14) (mu : gM) : gMet l (d + 1) yJ0_length_8abf5 cJ0_length_8abf5 1 (some .int) kG [gR (1000 + j)] mu (fun r mu' => r = some (gI (nI (gLen.getD j 0))) ∧ mu' = mu) := by
  have hsh : ∀ j, j < 14 → (Int32.ofNat (gLen.getD j 0)) >>> ((0 : Int32) &&& 31) = nI (gLen.getD j 0) := by decide +kernel
  refine rMet.of (avf := fun al _ => [gR (1000 + j)].map (gc al)) (by decide) (fun _ _ => by exact Nat.le_refl 1) (fun X adV hI => ?_)
  have hI' := hI
  obtain ⟨h, hOE, hl, hR, hG, hy, hn, ho, hQ, hr, hlk, hA⟩ := hI'
  obtain ⟨hS, -, -⟩ := hI.str
  refine r_aload_n (a := gXal X (1000 + j)) h (by rw [hy]; exact (by decide +kernel : decode cJ0_length_8abf5 0 = .ok (.aload_n 0, 1))) List.mem_cons_self ?_
  refine r_getf h (hS.1 j hj).2.2.1 (by rw [ho]; exact tw 1892 rfl rfl) (by rw [hy]; exact (by decide +kernel : decode cJ0_length_8abf5 1 = .ok (.getfield 9, 3))) ?_
  refine r_tlen h (hS.1 j hj).2.2.2 (by rw [hy]; exact (by decide +kernel : decode cJ0_length_8abf5 4 = .ok (.arraylength, 1))) ?_
  refine r_aload_n (a := gXal X (1000 + j)) h (by rw [hy]; exact (by decide +kernel : decode cJ0_length_8abf5 5 = .ok (.aload_n 0, 1))) List.mem_cons_self ?_
  refine r_invokeS (st := [.int (Int32.ofNat (gLen.getD j 0))]) (as := []) (n := 0) (d' := d) h hOE hA (.inl hR) (by omega) hj (by rw [hl, hG]; exact coder_ok l d hj mu) rfl ⟨fun w hw => ?_, by decide, by decide⟩ (by rw [ho]; exact tw 467 rfl rfl) (tw 468 rfl rfl) (tw 469 rfl rfl) rfl rfl (show 1 + 0 ≤ 8 by decide) (by rw [hy]; exact (by decide +kernel : decode cJ0_length_8abf5 6 = .ok (.invokevirtual 335, 3))) (fun r mu' hp => ?_)
  · simp only [List.mem_cons, List.not_mem_nil, or_false] at hw
    rcases hw with rfl | rfl
    · exact tw 470 rfl rfl
    · exact tw 14 rfl rfl
  obtain ⟨rfl, rfl⟩ := hp
  refine r_ishr (y := 0) h (by rw [hy]; exact (by decide +kernel : decode cJ0_length_8abf5 9 = .ok (.ishr, 1))) ?_
  rw [hsh j hj]
  exact r_ireturn hI rfl (by rw [hy]; exact (by decide +kernel : decode cJ0_length_8abf5 10 = .ok (.ireturn, 1))) ⟨rfl, rfl⟩
