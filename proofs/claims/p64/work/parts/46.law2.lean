/-! THE LAW'S FRAME: a case, by its listing; the loop -/
def isAt (C : sCode) (p : Nat) (q : Instr × Nat) : Bool := match cAt C p with
  | some r => decide (r = q)
  | none => false
theorem isAt_ok {C : sCode} {p : Nat} {q : Instr × Nat} (h : isAt C p q = true) : cAt C p = some q := by
  unfold isAt at h
  split at h
  · rename_i r e
    rw [e, of_decide_eq_true h]
  · cases h
def argC (C : sCode) (pc j : Nat) : Bool := isAt C pc (.aload_n 0, 1) && (isAt C (pc + 1) (.iload_n 3, 1) && (isAt C (pc + 2) (.iconst (j : Int), 1) && (isAt C (pc + 3) (.iadd, 1) && isAt C (pc + 4) (.iaload, 1))))
def argsC (C : sCode) : Nat → Nat → Nat → Bool
  | _, _, 0 => true
  | pc, j, n + 1 => argC C pc j && argsC C (pc + 5) (j + 1) n
/-- the long constant: its number in the law's pool -/
def kLong : Nat := 267
def writeC (C : sCode) (pc : Nat) : Bool := argsC C pc 1 3 && (isAt C (pc + 15) (.i2l, 1) && (isAt C (pc + 16) (.bipush 32, 2) && (isAt C (pc + 18) (.lshl, 1) && (argC C (pc + 19) 4 && (isAt C (pc + 24) (.i2l, 1) && (isAt C (pc + 25) (.ldc2_w kLong, 3) && (isAt C (pc + 28) (.land, 1) && isAt C (pc + 29) (.lor, 1))))))))
/-- what stands behind the arguments; 100: write's -/
def argsAll (C : sCode) (pc n : Nat) : Option Nat := if Nat.beq n 100 then (if writeC C pc then some (pc + 30) else none) else if Nat.ble n 5 && argsC C pc 1 n then some (pc + 5 * n) else none
def lwr (u v : Int32) : Int64 := (u.toInt64 <<< (((Int8.ofInt 32).toInt32).toInt64 &&& 63)) ||| (v.toInt64 &&& 4294967295)
/-- the arguments: a j is script[i + j] -/
def aOf (n : Nat) (a : Nat → Int32) : List gV := if n = 100 then [gI (a 1), gI (a 2), gL (lwr (a 3) (a 4))] else (List.range' 1 n).map (fun t => gI (a t))
/-- a case of the law: pc, how many arguments, is it compared, the class' call, the reference's -/
abbrev hQ : Type := Nat × Nat × Bool × Nat × Nat
def caseC (C : sCode) (hd : Nat) (q : hQ) : Bool := isAt C q.1 (.aload_n 1, 1) && (match argsAll C (q.1 + 1) q.2.1 with
  | none => false
  | some p1 => isAt C p1 (.invokevirtual q.2.2.2.1, 3) && (if q.2.2.1 then
      (isAt C (p1 + 3) (.aload_n 2, 1) && (match argsAll C (p1 + 4) q.2.1 with
        | none => false
        | some p3 => isAt C p3 (.invokevirtual q.2.2.2.2, 3) && (match cAt C (p3 + 3) with
          | some (.if_icmp .eq off, 3) => decide (((p3 + 3 : Nat) : Int) + off = (hd : Int))
          | _ => false)))
    else isAt C (p1 + 3) (.pop, 1) && (isAt C (p1 + 4) (.aload_n 2, 1) && (match argsAll C (p1 + 5) q.2.1 with
        | none => false
        | some p3 => isAt C p3 (.invokevirtual q.2.2.2.2, 3) && (isAt C (p3 + 3) (.pop, 1) && (Nat.beq (p3 + 4) hd || (match cAt C (p3 + 4) with
          | some (.goto off, 3) => decide (((p3 + 4 : Nat) : Int) + off = (hd : Int))
          | _ => false)))))))
def hLaw (X : gX) (L : Nat) (xs : Nat → Int32) (C : sCode) : Prop := gOK X ∧ gXo X = "TwinVoiceLaw" ∧ gXn X = 4 ∧ hX X L xs ∧ (∀ p q, cAt C p = some q → decode (gXy X) p = .ok q) ∧ L < 2147483000
def lvL (i : Nat) : List (Nat × gV) := [(3, gI (nI i)), (2, gR 166), (1, gR 0), (0, gR 999)]
theorem m3 (i : Nat) : (((3 : Fin 4) : Nat), gI (nI i)) ∈ lvL i := List.mem_cons_self
theorem m2 (i : Nat) : (((2 : Fin 4) : Nat), gR 166) ∈ lvL i := List.mem_cons_of_mem _ List.mem_cons_self
theorem m1 (i : Nat) : (((1 : Fin 4) : Nat), gR 0) ∈ lvL i := List.mem_cons_of_mem _ (List.mem_cons_of_mem _ List.mem_cons_self)
theorem m0 (i : Nat) : (((0 : Fin 4) : Nat), gR 999) ∈ lvL i := List.mem_cons_of_mem _ (List.mem_cons_of_mem _ (List.mem_cons_of_mem _ List.mem_cons_self))
def hCase (X : gX) (q : hQ) (as : List gV) (mu : gM) (Inv : gM → Prop) : Prop :=
  ∃ Px, hCal X q.2.2.2.1 0 as mu Px ∧ ∀ r mu1, Px r mu1 → ∃ zx, r = some (gI zx) ∧ ∃ Pm, hCal X q.2.2.2.2 166 as mu1 Pm ∧ ∀ r2 mu2, Pm r2 mu2 → ∃ zm, r2 = some (gI zm) ∧ (q.2.2.1 = true → zx = zm) ∧ Inv mu2
section HLAW
variable {X : gX} {L : Nat} {xs : Nat → Int32} {C : sCode} {i pc : Nat} {st : List gV} {mu : gM}
theorem h_arg (Y : hLaw X L xs C) {j : Nat} (hj : j ≤ 5) (hi : i + 5 < L) (c : argC C pc j = true) (k : hG X (pc + 5) (lvL i) (gI (xs (i + j)) :: st) mu) : hG X pc (lvL i) st mu := by
  obtain ⟨h, ho, hn, hx, hC, hL⟩ := Y
  simp only [argC, Bool.and_eq_true] at c
  obtain ⟨c0, c1, c2, c3, c4⟩ := c
  refine h_aload_n h (hC _ _ (isAt_ok c0)) (m0 _) ?_
  refine h_iload_n (x := nI i) h (hC _ _ (isAt_ok c1)) (m3 _) ?_
  refine h_iconst h (hC _ _ (isAt_ok c2)) ?_
  refine h_iadd h (hC _ _ (isAt_ok c3)) ?_
  rw [show nI i + Int32.ofInt (j : Int) = nI (i + j) from nI_add i j]
  refine h_sld h hx (vp_in_nI (by omega) (by omega)) (hC _ _ (isAt_ok c4)) ?_
  rw [nI_clamp (by omega)]
  exact k
theorem h_args (Y : hLaw X L xs C) (hi : i + 5 < L) : ∀ (n pc j : Nat) (st : List gV), argsC C pc j n = true → j + n ≤ 6 → hG X (pc + 5 * n) (lvL i) (((List.range' j n).map (fun t => gI (xs (i + t)))).reverse ++ st) mu → hG X pc (lvL i) st mu
  | 0, _, _, _, _, _, k => k
  | n + 1, pc, j, st, c, hj, k => by
    simp only [argsC, Bool.and_eq_true] at c
    refine h_arg Y (by omega) hi c.1 ?_
    refine h_args Y hi n (pc + 5) (j + 1) _ c.2 (by omega) ?_
    rw [List.range'_succ, List.map_cons, List.reverse_cons, List.append_assoc, show pc + 5 * (n + 1) = pc + 5 + 5 * n by omega] at k
    exact k
theorem kLong_ok : Jvm.Cond.constantLong "TwinVoiceLaw" kLong 4294967295 ∈ TW := by decide +kernel
theorem h_all (Y : hLaw X L xs C) (hi : i + 5 < L) {n p1 : Nat} (c : argsAll C pc n = some p1) (k : hG X p1 (lvL i) ((aOf n (fun t => xs (i + t))).reverse ++ st) mu) : hG X pc (lvL i) st mu := by
  unfold argsAll at c
  split at c
  · rename_i c0
    rw [Nat.beq_eq] at c0
    subst c0
    split at c
    · rename_i c1
      cases c
      have Y' := Y
      obtain ⟨h, ho, hn, hx, hC, hL⟩ := Y
      simp only [writeC, Bool.and_eq_true] at c1
      obtain ⟨a1, a2, a3, a4, a5, a6, a7, a8, a9⟩ := c1
      refine h_args Y' hi 3 pc 1 st a1 (by omega) ?_
      refine h_i2l (x := xs (i + 3)) h (hC _ _ (isAt_ok a2)) ?_
      refine h_bipush h (hC _ _ (isAt_ok a3)) ?_
      refine h_lshl h (hC _ _ (isAt_ok a4)) ?_
      refine h_arg Y' (by omega) hi a5 ?_
      refine h_i2l h (hC _ _ (isAt_ok a6)) ?_
      refine h_ldc2 h (by rw [ho]; exact kLong_ok) (hC _ _ (isAt_ok a7)) ?_
      refine h_land h (hC _ _ (isAt_ok a8)) ?_
      refine h_lor h (hC _ _ (isAt_ok a9)) ?_
      exact k
    · cases c
  · rename_i c0
    have hne : n ≠ 100 := fun z => c0 (by rw [z]; rfl)
    split at c
    · rename_i c1
      simp only [Bool.and_eq_true, Nat.ble_eq] at c1
      cases c
      refine h_args Y hi n pc 1 st c1.2 (by omega) ?_
      unfold aOf at k
      rw [if_neg hne] at k
      exact k
    · cases c
theorem case_ok (Y : hLaw X L xs C) (hi : i + 5 < L) {hd : Nat} {q : hQ} {Inv : gM → Prop} (c : caseC C hd q = true) (hc : hCase X q (aOf q.2.1 (fun t => xs (i + t))) mu Inv) (kk : ∀ mu', Inv mu' → hG X hd (lvL i) [] mu') : hG X q.1 (lvL i) [] mu := by
  have Y' := Y
  obtain ⟨h, ho, hn, hx, hC, hL⟩ := Y
  obtain ⟨pc, n, cmp, ix, im⟩ := q
  obtain ⟨Px, hPx, hgo⟩ := hc
  simp only at hPx hgo
  simp only [caseC, Bool.and_eq_true] at c
  obtain ⟨c0, c1⟩ := c
  refine h_aload_n h (hC _ _ (isAt_ok c0)) (m1 _) ?_
  split at c1
  · cases c1
  · rename_i p1 e1
    simp only [Bool.and_eq_true] at c1
    obtain ⟨c1, c2⟩ := c1
    refine h_all Y' hi e1 ?_
    refine hPx _ _ _ (hC _ _ (isAt_ok c1)) (by decide) (fun r mu1 hp => ?_)
    obtain ⟨zx, rfl, Pm, hPm, hgo2⟩ := hgo r mu1 hp
    split at c2
    · rename_i hcmp
      simp only [Bool.and_eq_true] at c2
      obtain ⟨c2, c3⟩ := c2
      refine h_aload_n h (hC _ _ (isAt_ok c2)) (m2 _) ?_
      split at c3
      · cases c3
      · rename_i p3 e3
        simp only [Bool.and_eq_true] at c3
        obtain ⟨c3, c4⟩ := c3
        refine h_all Y' hi e3 ?_
        refine hPm _ _ _ (hC _ _ (isAt_ok c3)) (by simp [gcat]) (fun r2 mu2 hp2 => ?_)
        obtain ⟨zm, rfl, heq, hInv⟩ := hgo2 r2 mu2 hp2
        split at c4
        · rename_i off e4
          exact h_icmp_eq h (hC _ _ e4) (of_decide_eq_true c4) (heq hcmp) (kk mu2 hInv)
        · cases c4
    · simp only [Bool.and_eq_true] at c2
      obtain ⟨c2, c2', c3⟩ := c2
      refine h_pop h (hC _ _ (isAt_ok c2)) rfl ?_
      refine h_aload_n h (hC _ _ (isAt_ok c2')) (m2 _) ?_
      split at c3
      · cases c3
      · rename_i p3 e3
        simp only [Bool.and_eq_true] at c3
        obtain ⟨c3, c4, c5⟩ := c3
        refine h_all Y' hi e3 ?_
        refine hPm _ _ _ (hC _ _ (isAt_ok c3)) (by decide) (fun r2 mu2 hp2 => ?_)
        obtain ⟨zm, rfl, heq, hInv⟩ := hgo2 r2 mu2 hp2
        refine h_pop h (hC _ _ (isAt_ok c4)) rfl ?_
        simp only [Bool.or_eq_true, Nat.beq_eq] at c5
        rcases c5 with c5 | c5
        · rw [show p3 + 3 + 1 = hd by omega]
          exact kk mu2 hInv
        · split at c5
          · rename_i off e5
            exact h_goto h (hC _ _ e5) (of_decide_eq_true c5) (kk mu2 hInv)
          · cases c5
/-- the loop's head, the end's place, the place behind a case -/
def loopC (C : sCode) (T hd : Nat) (Q : List hQ) : Bool :=
  isAt C 18 (.iload_n 3, 1) && (isAt C 19 (.aload_n 0, 1) && (isAt C 20 (.arraylength, 1) && (isAt C 21 (.bipush 6, 2) && (isAt C 23 (.isub, 1) && ((match cAt C 24 with
    | some (.if_icmp .gt off, 3) => decide (((24 : Nat) : Int) + off = (T : Int))
    | _ => false) && (isAt C 27 (.aload_n 0, 1) && (isAt C 28 (.iload_n 3, 1) && (isAt C 29 (.iaload, 1) && (isAt C 30 (.bipush 63, 2) && (isAt C 32 (.iand, 1) && ((match cAt C 33 with
    | some (.tableswitch _ lo hi offs, _) => decide (lo = 0) && (decide (hi = 63) && ((List.range 64).all (fun k => match offs[k]?, Q[k]? with
      | some off, some q => decide (((33 : Nat) : Int) + off = (q.1 : Int))
      | _, _ => false)))
    | _ => false) && (isAt C hd (.iinc 3 6, 3) && (match cAt C (hd + 3) with
    | some (.goto off, 3) => decide (((hd + 3 : Nat) : Int) + off = ((18 : Nat) : Int))
    | _ => false)))))))))))))
theorem law_loop (Y : hLaw X L xs C) {T hd : Nat} {Q : List hQ} (hl : loopC C T hd Q = true) (hq : Q.all (caseC C hd) = true) (Inv : Nat → gM → Prop)
    (hcases : ∀ (t : Nat) (mu : gM), 6 * t + 5 < L → Inv t mu → ∀ (k : Nat) (q : hQ), Q[k]? = some q → hCase X q (aOf q.2.1 (fun j => xs (6 * t + j))) mu (Inv (t + 1)))
    (hend : ∀ (i : Nat) (mu : gM), hG X T (lvL i) [] mu) : ∀ (n t : Nat) (mu : gM), L ≤ 6 * t + n → 6 * t ≤ L + 5 → Inv t mu → hG X 18 (lvL (6 * t)) [] mu := by
  have Y' := Y
  obtain ⟨h, ho, hn, hx, hC, hL⟩ := Y
  simp only [loopC, Bool.and_eq_true] at hl
  obtain ⟨a1, a2, a3, a4, a5, a6, a7, a8, a9, a10, a11, a12, a13, a14⟩ := hl
  have step : ∀ (t : Nat) (mu : gM), 6 * t ≤ L + 5 → Inv t mu → (6 * t + 5 < L → ∀ mu', Inv (t + 1) mu' → hG X 18 (lvL (6 * (t + 1))) [] mu') → hG X 18 (lvL (6 * t)) [] mu := by
    intro t mu hb hInv next
    refine h_iload_n (x := nI (6 * t)) h (hC _ _ (isAt_ok a1)) (m3 _) ?_
    refine h_aload_n h (hC _ _ (isAt_ok a2)) (m0 _) ?_
    refine h_slen h hx (hC _ _ (isAt_ok a3)) ?_
    refine h_bipush h (hC _ _ (isAt_ok a4)) ?_
    refine h_isub h (hC _ _ (isAt_ok a5)) ?_
    have e6 : (nI L - (Int8.ofInt 6).toInt32).toInt = (L : Int) - 6 := by
      have h1 : (nI L).toInt = (L : Int) := nI_toInt (by omega)
      have h2 : ((Int8.ofInt 6).toInt32).toInt = 6 := by decide
      rw [Int32.toInt_sub, h1, h2]
      rw [Int.bmod_eq_of_le (by omega) (by omega)]
    have e7 : (nI (6 * t)).toInt = ((6 * t : Nat) : Int) := nI_toInt (by omega)
    split at a6
    · rename_i off e8
      refine h_icmp_gt h (hC _ _ e8) (of_decide_eq_true a6) (fun _ => hend _ _) (fun hle => ?_)
      rw [Int32.lt_iff_toInt_lt, e6, e7] at hle
      have hi : 6 * t + 5 < L := by omega
      refine h_aload_n h (hC _ _ (isAt_ok a7)) (m0 _) ?_
      refine h_iload_n (x := nI (6 * t)) h (hC _ _ (isAt_ok a8)) (m3 _) ?_
      refine h_sld h hx (vp_in_nI (by omega) (by omega)) (hC _ _ (isAt_ok a9)) ?_
      refine h_bipush h (hC _ _ (isAt_ok a10)) ?_
      refine h_iand h (hC _ _ (isAt_ok a11)) ?_
      have b63 : ((Int8.ofInt 63).toInt32).toInt = 63 := by decide
      obtain ⟨b1, b2⟩ := ar_and2 (x := xs (nI (6 * t)).toNatClampNeg) (y := (Int8.ofInt 63).toInt32) (by rw [b63]; decide)
      rw [b63] at b2
      generalize xs (nI (6 * t)).toNatClampNeg &&& (Int8.ofInt 63).toInt32 = z at b1 b2 ⊢
      split at a12
      · rename_i dflt lo hi' offs len e12
        simp only [Bool.and_eq_true, decide_eq_true_eq, List.all_eq_true, List.mem_range] at a12
        obtain ⟨rfl, rfl, a12⟩ := a12
        have hk := a12 z.toInt.toNat (by omega)
        split at hk
        · rename_i off' q eo eq
          have ht := of_decide_eq_true hk
          refine h_tabIn h (hC _ _ e12) (by omega) (by omega) (by rw [Int.sub_zero]; exact eo) ht ?_
          refine case_ok Y' hi (List.all_eq_true.mp hq q (List.mem_of_getElem? eq)) (hcases t mu hi hInv _ q eq) (fun mu' hInv' => ?_)
          refine h_iinc (x := nI (6 * t)) h (hC _ _ (isAt_ok a13)) (m3 _) (by rw [hn]; omega) ?_
          split at a14
          · rename_i off2 e14
            refine h_goto h (hC _ _ e14) (of_decide_eq_true a14) ?_
            have e : gst1 (lvL (6 * t)) 3 (gI (nI (6 * t) + Int32.ofInt 6)) = lvL (6 * (t + 1)) := by
              have e2 : nI (6 * t) + Int32.ofInt 6 = nI (6 * (t + 1)) := (nI_add (6 * t) 6).trans (by rw [show 6 * t + 6 = 6 * (t + 1) by omega])
              rw [e2]
              rfl
            rw [e]
            exact next hi mu' hInv'
          · cases a14
        · cases hk
      · cases a12
    · cases a6
  intro n
  induction n with
  | zero => exact fun t mu hb h2 hInv => step t mu h2 hInv (fun hi => by omega)
  | succ n ih => exact fun t mu hb h2 hInv => step t mu h2 hInv (fun hi mu' hInv' => ih (t + 1) mu' (by omega) (by omega) hInv')
end HLAW
