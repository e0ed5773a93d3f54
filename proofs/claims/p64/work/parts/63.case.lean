/-! A CASE OF THE LAW, by two contracts of the table -/
set_option maxRecDepth 100000
def fullI (g : sG) : Bool := match g with
  | .inl h => decide (h.1 ≤ -2147483648) && decide (2147483647 ≤ h.2)
  | _ => false
def fullL (g : sG) : Bool := match g with
  | .inr (.inl h) => decide (h.1 ≤ i64l) && decide (i64h ≤ h.2)
  | _ => false
def fullG (n : Nat) (gs : List sG) : Bool := if Nat.beq n 100 then (match gs with
  | [a, b, c] => fullI a && (fullI b && fullL c)
  | _ => false) else Nat.beq gs.length n && gs.all fullI
theorem i32_rng (z : Int32) : -2147483648 ≤ z.toInt ∧ z.toInt ≤ 2147483647 := by
  have h1 : Int32.minValue.toInt ≤ z.toInt := z.minValue_le_toInt
  have h2 : z.toInt ≤ Int32.maxValue.toInt := z.toInt_le
  have h3 : Int32.minValue.toInt = -2147483648 := by decide
  have h4 : Int32.maxValue.toInt = 2147483647 := by decide
  omega
theorem fullI_ok {g : sG} (h : fullI g = true) (z : Int32) {gs : List sG} {as : List gV} (hr : gArgOK gs as) : gArgOK (g :: gs) (gI z :: as) := by
  have := i32_rng z
  rcases g with g | g | g
  · simp only [fullI, Bool.and_eq_true, decide_eq_true_eq] at h
    exact ⟨⟨by omega, by omega⟩, hr⟩
  · cases h
  · cases h
theorem fullL_ok {g : sG} (h : fullL g = true) (z : Int64) {gs : List sG} {as : List gV} (hr : gArgOK gs as) : gArgOK (g :: gs) (gL z :: as) := by
  have := i64_range z
  rcases g with g | g | g
  · cases h
  · simp only [fullL, Bool.and_eq_true, decide_eq_true_eq] at h
    exact ⟨⟨by omega, by omega⟩, hr⟩
  · cases h
theorem fulls_ok : ∀ (gs : List sG) (l : List Int32), gs.all fullI = true → gs.length = l.length → gArgOK gs (l.map gI)
  | [], [], _, _ => trivial
  | [], _ :: _, _, h => by simp at h
  | _ :: _, [], _, h => by simp at h
  | g :: gs, z :: l, h, hl => by
    simp only [List.all_cons, Bool.and_eq_true] at h
    exact fullI_ok h.1 z (fulls_ok gs l h.2 (by simpa using hl))
theorem fullG_ok {n : Nat} {gs : List sG} (h : fullG n gs = true) (a : Nat → Int32) : gArgOK gs (aOf n a) := by
  unfold fullG at h
  unfold aOf
  split at h
  · rename_i c
    rw [Nat.beq_eq] at c
    rw [if_pos c]
    split at h
    · simp only [Bool.and_eq_true] at h
      exact fullI_ok h.1 _ (fullI_ok h.2.1 _ (fullL_ok h.2.2 _ trivial))
    · cases h
  · rename_i c
    rw [if_neg (fun z => c (by rw [z]; rfl))]
    simp only [Bool.and_eq_true, Nat.beq_eq] at h
    have := fulls_ok gs ((List.range' 1 n).map a) h.2 (by rw [h.1, List.length_map, List.length_range'])
    rw [List.map_map] at this
    exact this
theorem hCase.mono {X : gX} {q : hQ} {as : List gV} {mu : gM} {I J : gM → Prop} (h : hCase X q as mu I) (hij : ∀ m, I m → J m) : hCase X q as mu J := by
  obtain ⟨Px, h1, h2⟩ := h
  refine ⟨Px, h1, fun r mu1 hp => ?_⟩
  obtain ⟨zx, e1, Pm, h3, h4⟩ := h2 r mu1 hp
  refine ⟨zx, e1, Pm, h3, fun r2 mu2 hp2 => ?_⟩
  obtain ⟨zm, e2, h5, h6⟩ := h4 r2 mu2 hp2
  exact ⟨zm, e2, h5, hij _ h6⟩
theorem kMu0_ok : gProf kP kMu0 := by
  have hc : kQ.all (fun q => decide (q.2.2.1 ≤ 0) && (decide (0 ≤ q.2.2.2) && (kNz.all (fun p => !(Nat.ble q.1 p && Nat.blt p q.2.1) || (decide (q.2.2.1 ≤ -1) && decide (-1 ≤ q.2.2.2)))))) = true := by decide +kernel
  intro p g e
  obtain ⟨q, q1, q2, q3, q4⟩ := chkP_ok kg3 p g e
  have w := List.all_eq_true.mp hc q q1
  simp only [Bool.and_eq_true, decide_eq_true_eq, List.all_eq_true, Bool.or_eq_true, Bool.not_eq_true'] at w
  obtain ⟨w1, w2, w3⟩ := w
  rw [q4] at w1 w2 w3
  by_cases c : kNz.any (Nat.beq p) = true
  · have e1 : kMu0 p = -1 := if_pos c
    obtain ⟨p', p1, p2⟩ := List.any_eq_true.mp c
    rw [Nat.beq_eq] at p2
    subst p2
    rcases w3 p p1 with w3 | w3
    · exfalso
      have : (Nat.ble q.1 p && Nat.blt p q.2.1) = true := by
        simp only [Bool.and_eq_true, Nat.ble_eq, Nat.blt_eq]
        exact ⟨q2, q3⟩
      rw [this] at w3
      cases w3
    · rw [e1]
      exact w3
  · have e1 : kMu0 p = 0 := if_neg c
    rw [e1]
    exact ⟨w1, w2⟩
theorem kInv0 : kInv kMu0 := by
  refine ⟨kMu0_ok, ?_, ?_⟩
  · have z : ∀ b ∈ [2053, 2154, 2255, 2356], kMu0 (b + 6) = 0 := by decide +kernel
    have go : ∀ b ∈ [2053, 2154, 2255, 2356], SIb b kMu0 := fun b hb i j hij hj => by
      rw [z b hb] at hj
      omega
    exact ⟨go _ (by decide), go _ (by decide), go _ (by decide), go _ (by decide)⟩
  · have r : kR.all (fun q => decide (kMu0 q.1 = kMu0 q.2)) = true := by decide +kernel
    exact fun q hq => of_decide_eq_true (List.all_eq_true.mp r q hq)
def tlG (c : sC) : List sG := c.1.tail
def chk2 (n : Nat) (cmp : Bool) (p : Nat × Nat) : Bool := match bAt aCT p.1, bAt aCT p.2 with
  | some tx, some tm => (match kMt[tx.1]?, kMt[tm.1]? with
    | some mx, some mm => Nat.blt p.1 1200 && (Nat.blt p.2 1200 && (chkHead 0 tx.2.1 && (chkHead 166 tm.2.1 && (chkR mx tx.2.1 (tx.2.1.1.length - 1) && (chkR mm tm.2.1 (tm.2.1.1.length - 1) && (fullG n (tlG tx.2.1) && (fullG n (tlG tm.2.1) && (tx.2.1.2.1.isEmpty && (tm.2.1.2.1.isEmpty && caseOK tx.2.1 tm.2.1 cmp)))))))))
    | _, _ => false)
  | _, _ => false
theorem head_full {c : sC} {k0 n : Nat} {a : Nat → Int32} (hh : chkHead k0 c = true) (hf : fullG n (tlG c) = true) : gArgOK c.1 (gR k0 :: aOf n a) := by
  unfold chkHead at hh
  unfold tlG at hf
  split at hh
  · rename_i k gs ek
    rw [Nat.beq_eq] at hh
    subst hh
    rw [ek] at hf ⊢
    exact ⟨rfl, fullG_ok hf a⟩
  · cases hh
/-- a case of the law keeps what stands, in every frame of it -/
def okQ (q : hQ) : Prop := ∀ (X : gX) (adV : Nat → Nat) (mu : gM) (a : Nat → Int32), gOK X → gOE X adV → gXR X = room_1 → gXo X = "TwinVoiceLaw" → gXG X = kG → kInv mu → hCase X q (aOf q.2.1 a) mu kInv
theorem ok_case {q : hQ} {cmp : Bool} {p : Nat × Nat} (h : chk2 q.2.1 cmp p = true) (hcmp : q.2.2.1 = true → cmp = true) (lx : ∀ tx, bAt aCT p.1 = some tx → lkP kMt lawN (0, q.2.2.2.1, tx.1, 0, tx.2.1.1.length - 1)) (lm : ∀ tm, bAt aCT p.2 = some tm → lkP kMt lawN (0, q.2.2.2.2, tm.1, 0, tm.2.1.1.length - 1)) : okQ q := by
  intro X adV mu a hOK hOE hrm ho hG hinv
  unfold chk2 at h
  split at h
  · rename_i tx tm ex em
    split at h
    · rename_i mx mm emx emm
      simp only [Bool.and_eq_true, Nat.blt_eq, List.isEmpty_iff] at h
      obtain ⟨l1, l2, h1, h2, h3, h4, f1, f2, p1, p2, hc⟩ := h
      have ax := head_full (a := a) h1 f1
      have am := head_full (a := a) h2 f2
      obtain ⟨gx, cix, fsx, Tx, Nx, x1, x2, x3, x4⟩ := gAt_cls (X := X) hG kg1 (kMt_ok mx (List.mem_of_getElem? emx)) h1 h3
      obtain ⟨gm, cim, fsm, Tm, Nm, m1, m2, m3, m4⟩ := gAt_cls (X := X) hG kg1 (kMt_ok mm (List.mem_of_getElem? emm)) h2 h4
      have nx := argOK_len _ _ ax
      have nm := argOK_len _ _ am
      simp only [List.length_cons] at nx nm
      obtain ⟨mx', e1, gx1, wx, -, -, -⟩ := lkP_of (lx tx ex) (show (0 : Nat) ≠ 4 ∧ (0 : Nat) ≠ 5 ∧ (0 : Nat) ≠ 6 by decide)
      cases emx.symm.trans e1
      obtain ⟨mm', e2, gm1, wm, -, -, -⟩ := lkP_of (lm tm em) (show (0 : Nat) ≠ 4 ∧ (0 : Nat) ≠ 5 ∧ (0 : Nat) ≠ 6 by decide)
      cases emm.symm.trans e2
      have wx := wx rfl
      have wm := wm rfl
      simp only [lawN] at gx1 gm1 wx wm
      rw [← ho] at gx1 gm1 wx wm
      have cX := aTab (gXl X) 1200 p.1 l1 _ _ ex emx
      have cM := aTab (gXl X) 1200 p.2 l2 _ _ em emm
      rw [← hG] at cX cM
      refine ⟨_, hCal.of hOK hOE hrm (d' := p.1 + 5) (by omega) (cX (gR 0 :: aOf q.2.1 a) mu ax hinv.1 (fun h hh => by rw [p1] at hh; exact absurd hh List.not_mem_nil)) gx1 wx.1 wx.2.1 wx.2.2 x3 x4 (by omega), fun r mu1 hpost => ?_⟩
      obtain ⟨x, hx, hxo⟩ := hpost
      have hcc := hc
      simp only [caseOK, Bool.and_eq_true, List.all_eq_true] at hcc
      obtain ⟨zx, rfl⟩ := isInt_ok (hcc.1 x hx).1 hxo
      refine ⟨zx, rfl, _, hCal.of hOK hOE hrm (d' := p.2 + 5) (by omega) (cM (gR 166 :: aOf q.2.1 a) mu1 am (xok_prof hxo) (fun h hh => by rw [p2] at hh; exact absurd hh List.not_mem_nil)) gm1 wm.1 wm.2.1 wm.2.2 m3 m4 (by omega), fun r2 mu2 hpost2 => ?_⟩
      obtain ⟨y, hy, hyo⟩ := hpost2
      obtain ⟨z1, z2, q1, q2, q3, q4⟩ := pair_ok hc hx hy hinv ax hxo hyo
      cases q1
      exact ⟨z2, q2, fun w => q3 (hcmp w), q4⟩
    · cases h
  · cases h
/-- say: the reference's by hand -/
def chkSay (j : Nat) : Bool := match bAt aCT j with
  | some tx => (match kMt[tx.1]? with
    | some mx => Nat.blt j 1200 && (chkHead 0 tx.2.1 && (chkR mx tx.2.1 (tx.2.1.1.length - 1) && (fullG 2 (tlG tx.2.1) && (tx.2.1.2.1.isEmpty && tx.2.1.2.2.2.all (fun x => isInt x && (x.2.1.all (fun e => Nat.blt e.2.1 2034) && kR.all (fun q => x.2.1.all (fun e => Nat.blt e.2.1 q.1 || Nat.blt q.1 e.1))))))))
    | none => false)
  | none => false
theorem ok_say {q : hQ} {j : Nat} (h : chkSay j = true) (hq : q.2.1 = 2) (hcmp : q.2.2.1 = false) (lx : ∀ tx, bAt aCT j = some tx → lkP kMt lawN (0, q.2.2.2.1, tx.1, 0, tx.2.1.1.length - 1)) (lm : lkP kMt lawN (0, q.2.2.2.2, 287, 0, 2)) : okQ q := by
  intro X adV mu a hOK hOE hrm ho hG hinv
  have e2 : aOf q.2.1 a = [gI (a 1), gI (a 2)] := by rw [hq]; rfl
  unfold chkSay at h
  split at h
  · rename_i tx ex
    split at h
    · rename_i mx emx
      simp only [Bool.and_eq_true, Nat.blt_eq, List.isEmpty_iff, List.all_eq_true, Bool.or_eq_true] at h
      obtain ⟨l1, h1, h3, f1, p1, hc⟩ := h
      have ax := head_full (a := a) h1 f1
      obtain ⟨gx, cix, fsx, Tx, Nx, x1, x2, x3, x4⟩ := gAt_cls (X := X) hG kg1 (kMt_ok mx (List.mem_of_getElem? emx)) h1 h3
      have nx := argOK_len _ _ ax
      simp only [List.length_cons] at nx
      obtain ⟨mx', e1, gx1, wx, -, -, -⟩ := lkP_of (lx tx ex) (show (0 : Nat) ≠ 4 ∧ (0 : Nat) ≠ 5 ∧ (0 : Nat) ≠ 6 by decide)
      cases emx.symm.trans e1
      obtain ⟨mm', e3, gm1, wm, -, -, -⟩ := lkP_of lm (show (0 : Nat) ≠ 4 ∧ (0 : Nat) ≠ 5 ∧ (0 : Nat) ≠ 6 by decide)
      cases (rfl : kMt[287]? = some (yX12_say, cX12_say, 3, some .int, 0, 12, kEX12, kkX12_say)).symm.trans e3
      have wx := wx rfl
      have wm := wm rfl
      simp only [lawN] at gx1 gm1 wx wm
      rw [← ho] at gx1 gm1 wx wm
      have cX := aTab (gXl X) 1200 j l1 _ _ ex emx
      rw [← hG] at cX
      rw [hq]
      refine ⟨_, hCal.of hOK hOE hrm (d' := j + 5) (by omega) (cX (gR 0 :: aOf 2 a) mu ax hinv.1 (fun h hh => by rw [p1] at hh; exact absurd hh List.not_mem_nil)) gx1 wx.1 wx.2.1 wx.2.2 x3 x4 (by omega), fun r mu1 hpost => ?_⟩
      obtain ⟨x, hx, hxo⟩ := hpost
      obtain ⟨i1, t1, t2⟩ := hc x hx
      obtain ⟨zx, rfl⟩ := isInt_ok i1 hxo
      have hu : ∀ p, 2034 ≤ p → mu1 p = mu p := fun p hp => xok_at hxo p (lk_none _ _ (fun e he => by
        have := t1 e he
        omega))
      have hw : ∀ q ∈ kR, mu1 q.1 = mu q.1 := fun q hq => xok_at hxo q.1 (lk_none _ _ (fun e he => by
        have := t2 q hq e he
        omega))
      have hp1 := xok_prof hxo
      have hS1 : SI mu1 := by
        obtain ⟨-, hS, -⟩ := hinv
        have go : ∀ b, 2034 ≤ b → SIb b mu → SIb b mu1 := fun b hb hS i j hij hj => by
          rw [hu _ (by omega)] at hj
          rw [hu _ (by omega), hu _ (by omega)]
          exact hS i j hij hj
        exact ⟨go _ (by omega) hS.1, go _ (by omega) hS.2.1, go _ (by omega) hS.2.2.1, go _ (by omega) hS.2.2.2⟩
      have hcell : ∃ fs, kG[166]? = some (.inl (12, fs)) := ⟨_, (rfl : kG[166]? = some (.inl (12, _)))⟩
      obtain ⟨fs, hfs⟩ := hcell
      refine ⟨zx, rfl, _, hCal.of hOK hOE hrm (d' := 579 + 5) (k := 166) (as := aOf 2 a) (by omega) (by rw [hG]; exact say_tab (gXl X) (a 1) (a 2) mu1 hp1 hS1) gm1 wm.1 wm.2.1 wm.2.2 (by rw [hG]; exact hfs) gcl12.1 rfl, fun r2 mu2 hpost2 => ?_⟩
      obtain ⟨⟨zm, rfl⟩, hp2, hS2, ho2⟩ := hpost2
      refine ⟨zm, rfl, (fun w => by rw [hcmp] at w; cases w), hp2, hS2, fun q hq => ?_⟩
      have hb : ∀ q ∈ kR, q.1 < 2034 ∧ ((2153 < q.2 ∧ q.2 < 3366) ∨ 3401 < q.2) := by decide
      obtain ⟨b1, b2⟩ := hb q hq
      rw [ho2 q.1 (by unfold sayOut; omega), ho2 q.2 (by unfold sayOut; omega), hw q hq, hu q.2 (by omega)]
      exact hinv.2.2 q hq
    · cases h
  · cases h
