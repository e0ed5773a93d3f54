/-! TWO CONTRACTS, CALLED ONE BEHIND THE OTHER: what stands through both -/
set_option maxRecDepth 100000
/-- pairs of places, the class' and the reference's, that hold one number: which images are kept; slots' sizes, widths -/
def kR : List (Nat × Nat) := [(1311, 2457), (1312, 2458), (1313, 2459), (1787, 3440), (1849, 3441), (1911, 3442), (1973, 3443), (1786, 3444), (1848, 3445), (1910, 3446), (1972, 3447)]
def Rel (mu : gM) : Prop := ∀ q ∈ kR, mu q.1 = mu q.2
/-- what stands at each turn of the law's loop -/
def kInv (mu : gM) : Prop := gProf kP mu ∧ SI mu ∧ Rel mu
/-- a place of the reference goes over into the class' that holds the same -/
def ren1 (k : Nat) : Nat := match kR.find? (fun q => Nat.beq q.2 k) with
  | some q => q.1
  | none => k
/-- symbols that both calls' forms may speak of -/
def fR (cx : sC) (k : Nat) : Option sL := if Nat.ble 2034 k && Nat.blt k 3748 then some (sY (ren1 k)) else if Nat.ble 3749 k && Nat.blt k 3757 then (match cx.1[k - 3748]? with
  | some (.inr (.inr _)) => none
  | some _ => some (sY k)
  | none => none) else none
/-- what an exit says, as forms that are at most 0 -/
def fX (x : sX) : List sL := x.2.2.2.1 ++ x.2.2.1.flatMap (fun h => [(h.2.1, [(h.1, -1)]), (-h.2.2, [(h.1, 1)])])
theorem fX_ok {rho : Nat → Int} {x : sX} (h1 : sIvOK rho x.2.2.1) (h2 : sLiOK rho x.2.2.2.1) : ∀ l ∈ fX x, sEv rho l ≤ 0 := by
  intro l hl
  rcases List.mem_append.mp hl with hl | hl
  · exact h2 l hl
  · obtain ⟨h, hh, hl⟩ := List.mem_flatMap.mp hl
    have := h1 h hh
    simp only [List.mem_cons, List.not_mem_nil, or_false] at hl
    rcases hl with rfl | rfl
    · show h.2.1 + (-1 * rho h.1 + 0) ≤ 0
      omega
    · show -h.2.2 + (1 * rho h.1 + 0) ≤ 0
      omega
/-- the two exits can't be one behind the other -/
def contra (cx : sC) (x y : sX) : Bool := (fX x).any (fun a => (fX y).any (fun b => match sSubL (fR cx) b with
  | some b' => (match sB kP [] (sAdd a b') with
    | some g => decide (0 < g.1)
    | none => false)
  | none => false))
/-- they answer one number -/
def sameAns (x y : sX) : Bool := match x.1, y.1 with
  | some (.inl (.inl l)), some (.inl (.inl l')) => (match l, l' with
    | (n, []), (n', []) => decide (n = n')
    | _, _ => false)
  | _, _ => false
/-- the pairs still hold one number -/
def relOK (cx : sC) (x y : sX) : Bool := kR.all (fun q => match sLook x.2.1 q.1, sLook y.2.1 q.2 with
  | none, none => true
  | some (some l), some (some l') => (match sSubL (fR cx) l' with
    | some m => lEq l m
    | none => false)
  | _, _ => false)
def chkPair (cx : sC) (cmp : Bool) (x y : sX) : Bool := ((!cmp || sameAns x y) && relOK cx x y) || contra cx x y
/-- a block of the reference's memory: untouched, copied, cut short, or empty -/
def siBlk (y : sX) (b : Nat) : Bool := y.2.1.all (fun e => Nat.blt e.2.1 (b + 6) || ((Nat.blt (b + 6) e.1 && Nat.blt e.2.1 (b + 92)) || Nat.blt (b + 100) e.1)) ||
  ((match sLook y.2.1 (b + 6) with
    | some (some (n, [])) => decide (n ≤ 0)
    | some (some (c, [(k, 1)])) => Nat.beq k (b + 6) && (decide (c ≤ 0) && y.2.1.all (fun e => Nat.blt e.2.1 (b + 92) || Nat.blt (b + 100) e.1))
    | _ => false) ||
  [2053, 2154, 2255, 2356].any (fun b' => (List.range 9).all (fun i => decide (sLook y.2.1 (b + 92 + i) = some (some (sY (b' + 92 + i))))) && decide (sLook y.2.1 (b + 6) = some (some (sY (b' + 6))))))
def siOK (y : sX) : Bool := siBlk y 2053 && (siBlk y 2154 && (siBlk y 2255 && siBlk y 2356))
/-- two contracts serve a case -/
def caseOK (cx cm : sC) (cmp : Bool) : Bool := cx.2.2.2.all (fun x => isInt x && x.2.1.all (fun e => Nat.blt e.2.1 2034)) && (cm.2.2.2.all (fun y => isInt y && (y.2.1.all (fun e => Nat.ble 2034 e.1) && siOK y)) && cx.2.2.2.all (fun x => cm.2.2.2.all (fun y => chkPair cx cmp x y)))
theorem lk_none : ∀ (me : sMem) (p : Nat), (∀ e ∈ me, ¬ (e.1 ≤ p ∧ p ≤ e.2.1)) → sLook me p = none
  | [], _, _ => rfl
  | q :: r, p, h => by
    unfold sLook
    have h0 := h q List.mem_cons_self
    have h1 : ¬ (Nat.ble q.1 p && Nat.ble p q.2.1) = true := by
      simp only [Bool.and_eq_true, Nat.ble_eq]
      exact h0
    rw [if_neg h1]
    exact lk_none r p (fun e he => h e (List.mem_cons_of_mem _ he))
theorem ren1_ok {mu mu1 : gM} (hR : Rel mu) (hx : ∀ p, 2034 ≤ p → mu1 p = mu p) (k : Nat) (hk : 2034 ≤ k) : mu (ren1 k) = mu1 k := by
  unfold ren1
  rw [hx k hk]
  cases e : kR.find? (fun q => Nat.beq q.2 k) with
  | none => rfl
  | some q =>
    have h1 := List.mem_of_find?_eq_some e
    have h2 := List.find?_some e
    rw [Nat.beq_eq] at h2
    rw [← h2]
    exact hR q h1
theorem ren1_lt (k : Nat) (hk : k < 3748) : ren1 k < 3748 := by
  unfold ren1
  cases e : kR.find? (fun q => Nat.beq q.2 k) with
  | none => exact hk
  | some q =>
    have h1 := List.mem_of_find?_eq_some e
    have hall : ∀ q ∈ kR, q.1 < 3748 := by decide
    exact hall q h1
section PAIR
variable {cx : sC} {x y : sX} {as : List gV} {mu mu1 mu2 : gM} {r1 r2 : Option gV}
theorem fR_key {rx ry : Nat → Int} (hx0 : sIn0 3748 kF (gR 0 :: as) mu rx) (hy0 : sIn0 3748 kF (gR 166 :: as) mu1 ry) (hR : Rel mu) (hu : ∀ p, 2034 ≤ p → mu1 p = mu p) (hax : gArgOK cx.1 (gR 0 :: as)) : sKey (fR cx) ry rx := by
  intro k l e
  unfold fR at e
  split at e
  · rename_i c
    simp only [Bool.and_eq_true, Nat.ble_eq, Nat.blt_eq] at c
    cases e
    rw [sEv_Y, hx0.1 _ (ren1_lt k c.2), hy0.1 _ c.2]
    exact ren1_ok hR hu k c.1
  · split at e
    · rename_i c
      simp only [Bool.and_eq_true, Nat.ble_eq, Nat.blt_eq] at c
      have hk : k = 3748 + (k - 3749 + 1) := by omega
      rcases ec : cx.1 with _ | ⟨g0, gs⟩
      · rw [ec] at hax
        exact hax.elim
      · rw [ec] at hax e
        rw [show k - 3748 = (k - 3749) + 1 by omega, List.getElem?_cons_succ] at e
        have key : (match gs[k - 3749]? with | some (.inr (.inr _)) => False | some _ => True | none => False) → l = sY k → sEv rx l = ry k := fun hg hl => by
          rw [hl, sEv_Y]
          have := arg_same hx0 hy0 (j := k - 3749) (by omega) hax hg
          rw [← hk] at this
          exact this
        cases eg : gs[k - 3749]? with
        | none => rw [eg] at e; cases e
        | some g =>
          rw [eg] at e key
          rcases g with g | g | g
          · cases e
            exact key trivial rfl
          · cases e
            exact key trivial rfl
          · cases e
    · cases e
theorem contra_ok (h : contra cx x y = true) (hp : gProf kP mu) (hR : Rel mu) (hu : ∀ p, 2034 ≤ p → mu1 p = mu p) (hax : gArgOK cx.1 (gR 0 :: as)) (hx : sXOK 3748 kP kF (gR 0 :: as) mu x r1 mu1) (hy : sXOK 3748 kP kF (gR 166 :: as) mu1 y r2 mu2) : False := by
  obtain ⟨rx, hx0, -, -, -, hxi, hxl⟩ := hx
  obtain ⟨ry, hy0, -, -, -, hyi, hyl⟩ := hy
  have hkey := fR_key hx0 hy0 hR hu hax
  unfold contra at h
  obtain ⟨a, ha, h⟩ := List.any_eq_true.mp h
  obtain ⟨b, hb, h⟩ := List.any_eq_true.mp h
  split at h
  · rename_i b' eb
    split at h
    · rename_i g eg
      have h := of_decide_eq_true h
      have w := sB_ok (r := rx) (P := kP) (iv := []) (fun q hq => absurd hq List.not_mem_nil) (fun p g e => by
        rw [hx0.1 p (kPM p g e)]
        exact hp p g e) eg
      rw [sEv_add] at w
      have w1 := fX_ok hxi hxl a ha
      have w2 := fX_ok hyi hyl b hb
      have w3 := sSubL_ok hkey eb
      omega
    · cases h
  · cases h
theorem same_ok (h : sameAns x y = true) (hx : sXOK 3748 kP kF (gR 0 :: as) mu x r1 mu1) (hy : sXOK 3748 kP kF (gR 166 :: as) mu1 y r2 mu2) {zx zm : Int32} (e1 : r1 = some (gI zx)) (e2 : r2 = some (gI zm)) : zx = zm := by
  unfold sameAns at h
  split at h
  · rename_i l l' q1 q2
    split at h
    · rename_i n n'
      obtain ⟨z1, k1, k2⟩ := xok_k hx q1
      obtain ⟨z2, k3, k4⟩ := xok_k hy q2
      rw [e1] at k1
      rw [e2] at k3
      cases k1
      cases k3
      have h := of_decide_eq_true h
      rw [← Int32.toInt_inj]
      omega
    · cases h
  · cases h
theorem rel_ok (h : relOK cx x y = true) (hR : Rel mu) (hu : ∀ p, 2034 ≤ p → mu1 p = mu p) (hv : ∀ p, p < 2034 → mu2 p = mu1 p) (hax : gArgOK cx.1 (gR 0 :: as)) (hx : sXOK 3748 kP kF (gR 0 :: as) mu x r1 mu1) (hy : sXOK 3748 kP kF (gR 166 :: as) mu1 y r2 mu2) : Rel mu2 := by
  obtain ⟨rx, hx0, -, -, hxm, -, -⟩ := hx
  obtain ⟨ry, hy0, -, -, hym, -, -⟩ := hy
  have hkey := fR_key hx0 hy0 hR hu hax
  intro q hq
  have hb : ∀ q ∈ kR, q.1 < 2034 ∧ 2034 ≤ q.2 := by decide
  obtain ⟨b1, b2⟩ := hb q hq
  have w := List.all_eq_true.mp h q hq
  have m1 := hxm q.1
  have m2 := hym q.2
  rw [hv _ b1]
  split at w
  · rename_i n1 n2
    rw [n1] at m1
    rw [n2] at m2
    rw [show mu1 q.1 = mu q.1 from m1, show mu2 q.2 = mu1 q.2 from m2, hu _ b2]
    exact hR q hq
  · rename_i l l' n1 n2
    rw [n1] at m1
    rw [n2] at m2
    split at w
    · rename_i m em
      rw [show mu1 q.1 = sEv rx l from m1, show mu2 q.2 = sEv ry l' from m2, lEq_ok w]
      exact sSubL_ok hkey em
    · cases w
  · cases w
theorem siBlk_ok {b : Nat} (hbm : b ∈ [2053, 2154, 2255, 2356]) (h : siBlk y b = true) (hp : gProf kP mu1) (hS : SI mu1) (hy : sXOK 3748 kP kF (gR 166 :: as) mu1 y r2 mu2) : SIb b mu2 := by
  have h9 : ∀ b ∈ [2053, 2154, 2255, 2356], mu1 (b + 6) ≤ 9 := by
    intro b hb
    simp only [List.mem_cons, List.not_mem_nil, or_false] at hb
    rcases hb with rfl | rfl | rfl | rfl
    · exact (prof_at hp 2059 (lo := 0) (by decide +kernel)).2
    · exact (prof_at hp 2160 (lo := 0) (by decide +kernel)).2
    · exact (prof_at hp 2261 (lo := 0) (by decide +kernel)).2
    · exact (prof_at hp 2362 (lo := 0) (by decide +kernel)).2
  have hSb : ∀ b ∈ [2053, 2154, 2255, 2356], SIb b mu1 := by
    intro b hb
    simp only [List.mem_cons, List.not_mem_nil, or_false] at hb
    rcases hb with rfl | rfl | rfl | rfl
    · exact hS.1
    · exact hS.2.1
    · exact hS.2.2.1
    · exact hS.2.2.2
  have hlt : ∀ b ∈ [2053, 2154, 2255, 2356], b + 106 < 3748 := by decide
  obtain ⟨ry, hy0, -, -, hym, -, -⟩ := hy
  unfold siBlk at h
  rw [Bool.or_eq_true, Bool.or_eq_true] at h
  rcases h with h | h | h
  · have out : ∀ p, p = b + 6 ∨ (b + 92 ≤ p ∧ p ≤ b + 100) → mu2 p = mu1 p := fun p hp => by
      have w := hym p
      rw [lk_none _ _ (fun e he => by
        have := List.all_eq_true.mp h e he
        simp only [Bool.or_eq_true, Bool.and_eq_true, Nat.blt_eq] at this
        omega)] at w
      exact w
    intro i j hij hj
    rw [out (b + 6) (.inl rfl)] at hj
    have := h9 b hbm
    rw [out (b + 92 + i) (.inr (by omega)), out (b + 92 + j) (.inr (by omega))]
    exact hSb b hbm i j hij hj
  · have w6 := hym (b + 6)
    split at h
    · rename_i n e
      rw [e] at w6
      have h := of_decide_eq_true h
      intro i j hij hj
      rw [show mu2 (b + 6) = n + 0 from w6] at hj
      omega
    · rename_i c k e
      simp only [Bool.and_eq_true, Nat.beq_eq, decide_eq_true_eq] at h
      obtain ⟨rfl, hc, h⟩ := h
      rw [e] at w6
      have e6 : mu2 (b + 6) = c + mu1 (b + 6) := by
        have w6 : mu2 (b + 6) = c + (1 * ry (b + 6) + 0) := w6
        rw [hy0.1 _ (by have := hlt b hbm; omega)] at w6
        omega
      have out : ∀ p, b + 92 ≤ p ∧ p ≤ b + 100 → mu2 p = mu1 p := fun p hp => by
        have w := hym p
        rw [lk_none _ _ (fun e he => by
          have := List.all_eq_true.mp h e he
          simp only [Bool.or_eq_true, Nat.blt_eq] at this
          omega)] at w
        exact w
      intro i j hij hj
      rw [e6] at hj
      have := h9 b hbm
      rw [out (b + 92 + i) (by omega), out (b + 92 + j) (by omega)]
      exact hSb b hbm i j hij (by omega)
    · cases h
  · obtain ⟨b', hb', h⟩ := List.any_eq_true.mp h
    simp only [Bool.and_eq_true, List.all_eq_true, List.mem_range, decide_eq_true_eq] at h
    obtain ⟨h1, h2⟩ := h
    have cp : ∀ p k, k < 3748 → sLook y.2.1 p = some (some (sY k)) → mu2 p = mu1 k := fun p k hk e => by
      have w := hym p
      rw [e] at w
      rw [show mu2 p = sEv ry (sY k) from w, sEv_Y, hy0.1 _ hk]
    have hb3 := hlt b' hb'
    intro i j hij hj
    rw [cp (b + 6) (b' + 6) (by omega) h2] at hj
    have := h9 b' hb'
    rw [cp _ _ (by omega) (h1 i (by omega)), cp _ _ (by omega) (h1 j (by omega))]
    exact hSb b' hb' i j hij hj
/-- what holds behind both calls -/
theorem pair_ok {cm : sC} {cmp : Bool} (h : caseOK cx cm cmp = true) (hx1 : x ∈ cx.2.2.2) (hy1 : y ∈ cm.2.2.2) (hinv : kInv mu) (hax : gArgOK cx.1 (gR 0 :: as)) (hx : sXOK 3748 kP kF (gR 0 :: as) mu x r1 mu1) (hy : sXOK 3748 kP kF (gR 166 :: as) mu1 y r2 mu2) : ∃ zx zm, r1 = some (gI zx) ∧ r2 = some (gI zm) ∧ (cmp = true → zx = zm) ∧ kInv mu2 := by
  obtain ⟨hp, hS, hR⟩ := hinv
  simp only [caseOK, Bool.and_eq_true, List.all_eq_true] at h
  obtain ⟨h1, h2, h3⟩ := h
  obtain ⟨i1, t1⟩ := h1 x hx1
  obtain ⟨i2, t2, s2⟩ := h2 y hy1
  have c := h3 x hx1 y hy1
  obtain ⟨zx, rfl⟩ := isInt_ok i1 hx
  obtain ⟨zm, rfl⟩ := isInt_ok i2 hy
  have hu : ∀ p, 2034 ≤ p → mu1 p = mu p := fun p hp => xok_at hx p (lk_none _ _ (fun e he => by
    have := t1 e he
    rw [Nat.blt_eq] at this
    omega))
  have hv : ∀ p, p < 2034 → mu2 p = mu1 p := fun p hp => xok_at hy p (lk_none _ _ (fun e he => by
    have := t2 e he
    rw [Nat.ble_eq] at this
    omega))
  have hp1 := xok_prof hx
  have hS1 : SI mu1 := by
    have go : ∀ b, 2034 ≤ b → SIb b mu → SIb b mu1 := fun b hb hS i j hij hj => by
      rw [hu _ (by omega)] at hj
      rw [hu _ (by omega), hu _ (by omega)]
      exact hS i j hij hj
    exact ⟨go _ (by omega) hS.1, go _ (by omega) hS.2.1, go _ (by omega) hS.2.2.1, go _ (by omega) hS.2.2.2⟩
  unfold chkPair at c
  rw [Bool.or_eq_true, Bool.and_eq_true] at c
  rcases c with ⟨c1, c2⟩ | c
  · simp only [siOK, Bool.and_eq_true] at s2
    refine ⟨zx, zm, rfl, rfl, fun hcmp => ?_, xok_prof hy, ⟨siBlk_ok (by decide) s2.1 hp1 hS1 hy, siBlk_ok (by decide) s2.2.1 hp1 hS1 hy, siBlk_ok (by decide) s2.2.2.1 hp1 hS1 hy, siBlk_ok (by decide) s2.2.2.2 hp1 hS1 hy⟩, rel_ok c2 hR hu hv hax hx hy⟩
    rw [hcmp] at c1
    simp only [Bool.not_true, Bool.false_or] at c1
    exact same_ok c1 hx hy rfl rfl
  · exact (contra_ok c hp hR hu hax hx hy).elim
end PAIR
