/-! TABLES once more: contracts proved by hand among them, strings' methods given at calls, links as facts -/
set_option maxRecDepth 100000
/-- strings' contracts: t < 14 length of t, t + 14 charAt of t -/
def kStr (t : Nat) : sC := if t < 14 then ([.inr (.inr (some (1000 + t)))], [], [], [(some (.inl (.inl (((gLen.getD t 0 : Nat) : Int), []))), [], [], [], 0)])
  else ([.inr (.inr (some (1000 + (t - 14)))), .inl (0, ((gLen.getD (t - 14) 0 : Nat) : Int) - 1)], [], [], [(some (.inl (.inl (0, [(3764, 1)]))), [], [(3764, 97, 122)], [], 1)])
def kGiv (u : Nat) : sC := if u < 100 then kMath u else kStr (u - 100)
/-- the words of a call of String.length, of String.charAt -/
def lenW (own : String) (idx : Nat) : Prop := Cond.methodLink own idx yJ0_length_8abf5 ∈ TW
def chaW (own : String) (idx : Nat) : Prop := Cond.methodLink own idx yJ0_charAt_5068e ∈ TW
theorem str_gcw1 (own : String) (idx : Nat) : gcw own idx yJ0_length_8abf5 cJ0_length_8abf5 1 (some .int) 0 :=
  ⟨fun w hw => by
    simp only [List.mem_cons, List.not_mem_nil, or_false] at hw
    rcases hw with rfl | rfl
    · exact tw 466 rfl rfl
    · exact tw 14 rfl rfl, by decide, by decide⟩
theorem str_gcw2 (own : String) (idx : Nat) : gcw own idx yJ0_charAt_5068e cJ0_charAt_5068e 2 (some .char) 1 :=
  ⟨fun w hw => by
    simp only [List.mem_cons, List.not_mem_nil, or_false] at hw
    rcases hw with rfl | rfl
    · exact tw 476 rfl rfl
    · exact tw 14 rfl rfl, by decide, by decide⟩
section STRG
variable {X : gX} {F : Nat → Int → gM → Int} {P : sP} {adV : Nat → Nat} {d idx : Nat}
/-- length called on constant j, at a frame of values -/
theorem g_length (h : gOK X) (hOE : gOE X adV) (hA : gXA X = gA (gXG X) (gXal X)) (hG : gXG X = kG) (hrm : gRm X d) (hd4 : 4 ≤ d) (hw : lenW (gXo X) idx) {j : Nat} (hj : j < 14) {pc : Nat} {lv : List (Nat × gV)} {sv : List gV} {mu : gM} (hs : (sv.map gcat).sum ≤ 8) (hd : decode (gXy X) pc = .ok (.invokevirtual idx, 3))
    (kk : gG X (pc + 3) lv (gI (nI (gLen.getD j 0)) :: sv) mu) : gG X pc lv (gR (1000 + j) :: sv) mu := by
  have k2 : rG X pc (glv (gXal X) lv) (Value.ref (gXal X (1000 + j)) :: sv.map (gc (gXal X))) mu :=
    r_invokeS (st := sv.map (gc (gXal X))) (as := []) (n := 0) (d' := 0 + 1) h hOE hA hrm (by omega) hj (by rw [hG]; exact length_ok (gXl X) 0 hj mu) rfl (str_gcw1 _ _) hw (tw 464 rfl rfl) (tw 465 rfl rfl) rfl rfl (g_sum X sv hs) hd (fun r mu' hp => by
      obtain ⟨rfl, rfl⟩ := hp
      exact kk)
  exact k2
theorem g_charAt (h : gOK X) (hOE : gOE X adV) (hA : gXA X = gA (gXG X) (gXal X)) (hG : gXG X = kG) (hrm : gRm X d) (hd4 : 4 ≤ d) (hw : chaW (gXo X) idx) {j : Nat} (hj : j < 14) {i : Nat} (hi : i < gLen.getD j 0) {pc : Nat} {lv : List (Nat × gV)} {sv : List gV} {mu : gM} (hs : (sv.map gcat).sum ≤ 8) (hd : decode (gXy X) pc = .ok (.invokevirtual idx, 3))
    (kk : gG X (pc + 3) lv (gI (chJ j i) :: sv) mu) : gG X pc lv (gI (nI i) :: gR (1000 + j) :: sv) mu := by
  have k2 : rG X pc (glv (gXal X) lv) (Value.int (nI i) :: Value.ref (gXal X (1000 + j)) :: sv.map (gc (gXal X))) mu :=
    r_invokeS (st := sv.map (gc (gXal X))) (as := [gI (nI i)]) (n := 1) (d' := 0 + 3) h hOE hA hrm (by omega) hj (by rw [hG]; exact charAt_ok (gXl X) 0 hj hi mu) rfl (str_gcw2 _ _) hw (tw 474 rfl rfl) (tw 475 rfl rfl) rfl rfl (g_sum X sv hs) hd (fun r mu' hp => by
      obtain ⟨rfl, rfl⟩ := hp
      exact kk)
  exact k2
theorem giv_str (h : gOK X) (hOE : gOE X adV) (hA : gXA X = gA (gXG X) (gXal X)) (hG : gXG X = kG) (hrm : gRm X d) (hd4 : 4 ≤ d) {t : Nat} (ht : t < 28) (hw : if t < 14 then lenW (gXo X) idx else chaW (gXo X) idx) : sGiv X P F 3748 (.invokevirtual idx) (kStr t) := by
  intro pc lv av sv mu hd ha hp hpre hs kk
  unfold kStr at ha kk
  by_cases c : t < 14
  · rw [if_pos c] at ha kk hw
    rcases av with _ | ⟨(x | x) | x, _ | ⟨w, av⟩⟩
    · exact ha.elim
    · exact ha.elim
    · exact ha.elim
    · exact ha.elim
    · exact ha.elim
    · obtain ⟨rfl, -⟩ := ha
      refine g_length h hOE hA hG hrm hd4 hw c hs hd ?_
      refine kk _ List.mem_cons_self (some (gI (nI (gLen.getD t 0)))) mu ⟨sR0 3748 F [gR (1000 + t)] mu, sR0_ok 3748 F _ mu (sAg.rf _ _), ?_, hp, fun p => rfl, fun q hq => absurd hq List.not_mem_nil, fun q hq => absurd hq List.not_mem_nil⟩
      show (nI (gLen.getD t 0)).toInt = ((gLen.getD t 0 : Nat) : Int) + 0
      rw [nI_toInt (by have := lenJ_ok t c; omega)]
      omega
    · exact ha.2.elim
  · rw [if_neg c] at ha kk hw
    obtain ⟨j, rfl⟩ : ∃ j, t = j + 14 := ⟨t - 14, by omega⟩
    have hj : j < 14 := by omega
    rw [Nat.add_sub_cancel] at ha kk
    rcases av with _ | ⟨(x | x) | x, _ | ⟨(z | z) | z, _ | ⟨w, av⟩⟩⟩
    all_goals first | exact ha.elim | exact ha.2.elim | exact ha.2.2.elim | skip
    obtain ⟨rfl, ⟨h1, h2⟩, -⟩ := ha
    have hi : z.toInt.toNat < gLen.getD j 0 := by
      simp only at h1 h2
      omega
    have h10 := lenJ_ok j hj
    have ez : z = nI z.toInt.toNat := by
      rw [← Int32.toInt_inj, nI_toInt (by omega)]
      simp only at h1
      omega
    obtain ⟨-, -, q3, q4⟩ := chJ_ok j hj _ hi
    rw [ez]
    refine g_charAt h hOE hA hG hrm hd4 hw hj hi hs hd ?_
    refine kk _ List.mem_cons_self (some (gI (chJ j z.toInt.toNat))) mu ⟨sUp (sR0 3748 F [gR (1000 + j), gI z] mu) 3764 (chJ j z.toInt.toNat).toInt, sR0_ok 3748 F _ mu (fun i hi => if_neg (by omega)), ?_, hp, fun p => rfl, fun q hq => ?_, fun q hq => absurd hq List.not_mem_nil⟩
    · show (chJ j z.toInt.toNat).toInt = 0 + (1 * sUp _ 3764 _ 3764 + 0)
      rw [sUp_s]
      omega
    · rw [List.mem_singleton.mp hq]
      show 97 ≤ sUp _ 3764 _ 3764 ∧ sUp _ 3764 _ 3764 ≤ 122
      rw [sUp_s]
      exact ⟨q3, q4⟩
end STRG
/-- what a link says (kinds as before; 6: a method of String's) -/
def lkP (MT : List tM) (own : Nat → String) (q : tL) : Prop := match q.2.2.2.1 with
  | 4 => Cond.methodLink (own q.1) q.2.1 arraycopyName ∈ TW
  | 5 => mathRow (own q.1) q.2.1 (q.2.2.1 - 9000) = true
  | 6 => if q.2.2.1 - 9100 < 14 then lenW (own q.1) q.2.1 else chaW (own q.1) q.2.1
  | k => ∃ m, MT[q.2.2.1]? = some m ∧ gcw (own q.1) q.2.1 m.1 m.2.1 m.2.2.1 m.2.2.2.1 q.2.2.2.2 ∧
    (k = 0 → Cond.methodLink (own q.1) q.2.1 m.1 ∈ TW ∧ Cond.instanceMethod m.1 ∈ TW ∧ Cond.selects m.1.cls m.1 m.1 ∈ TW) ∧ (k = 1 → Cond.methodLink (own q.1) q.2.1 m.1 ∈ TW ∧ Cond.static m.1 ∈ TW) ∧
    (k = 2 → Cond.methodLinkNest (own q.1) q.2.1 m.1 "TwinVoice" ∈ gNW ∧ Cond.instanceMethod m.1 ∈ TW ∧ Cond.selects m.1.cls m.1 m.1 ∈ TW) ∧ (k = 3 → Cond.methodLinkNest (own q.1) q.2.1 m.1 "TwinVoice" ∈ gNW ∧ Cond.static m.1 ∈ TW)
def tCon2 (CT : List (List tC)) (j : Nat) : sC := match bAt CT j with
  | some c => if Nat.ble 9000 c.1 then kGiv (c.1 - 9000) else c.2.1
  | none => ([], [], [], [])
def tY2 (CT : List (List tC)) (m : tM) (c : tC) : sY1 := (3748, m.2.2.2.2.2.2.1, m.2.2.2.2.2.2.2, c.2.2.1, c.2.2.2.1, c.2.2.2.2.1, c.2.2.2.2.2.map (fun q => (q.1, q.2.1, q.2.2.1, q.2.2.2.map (fun j => (j, tCon2 CT j)))))
def chkCall2 (MT : List tM) (CT : List (List tC)) (LT : List tL) (see i cls : Nat) (q : Nat × Nat × Nat × List Nat) : Bool := if Nat.beq q.2.1 2 then (match tFlag LT cls q.1 9999 with | some f => Nat.beq f.1 4 | none => false) else
  q.2.2.2.all (fun j => Nat.blt j i && (match bAt CT j with
    | none => false
    | some cj => if Nat.ble 9000 cj.1 then (if Nat.ble 9100 cj.1 then Nat.beq q.2.1 0 && (Nat.blt (cj.1 - 9100) 28 && (match tFlag LT cls q.1 cj.1 with
      | some f => Nat.beq f.1 6
      | none => false)) else Nat.beq q.2.1 1 && (Nat.blt (cj.1 - 9000) 4 && (match tFlag LT cls q.1 cj.1 with
      | some f => Nat.beq f.1 5
      | none => false))) else (match MT[cj.1]? with
      | none => false
      | some m => (match tFlag LT cls q.1 cj.1 with
        | none => false
        | some f => (match q.2.1 with
          | 0 => (Nat.beq f.1 0 || Nat.beq f.1 2) && chkR m cj.2.1 f.2
          | 1 => (Nat.beq f.1 1 || Nat.beq f.1 3) && Nat.beq cj.2.1.1.length f.2
          | 3 => Nat.beq j see && ((Nat.beq f.1 0 || Nat.beq f.1 2) && chkR m cj.2.1 f.2)
          | _ => false)))))
def chkCon2 (MT : List tM) (CT : List (List tC)) (LT : List tL) (see i : Nat) : Bool := match bAt CT i with
  | none => true
  | some c => (match MT[c.1]? with
    | none => false
    | some m => (Nat.blt m.2.2.2.2.2.1 13 || c.2.2.2.2.2.isEmpty) && (Nat.ble (c.2.1.1.map sGc).sum m.2.2.1 && (c.2.2.2.2.2.all (chkCall2 MT CT LT see i m.2.2.2.2.2.1) && sCheck (tY2 CT m c) m.2.2.2.2.1 3000 c.2.1)))
section TABS2
variable {F : Nat → Int → gM → Int} {MT : List tM} {LT : List tL} {CT : List (List tC)} {see : Nat}
/-- rows ahead of i are kept -/
def tabTo (l : Launch) (F : Nat → Int → gM → Int) (MT : List tM) (CT : List (List tC)) (i : Nat) : Prop := ∀ (j : Nat), j < i → ∀ (c : tC) (m : tM), bAt CT j = some c → MT[c.1]? = some m → cMet l (j + 5) m.1 m.2.1 m.2.2.1 m.2.2.2.1 kG kP F 3748 c.2.1
theorem lkP_of {own : Nat → String} {q : tL} (h : lkP MT own q) (hf : q.2.2.2.1 ≠ 4 ∧ q.2.2.2.1 ≠ 5 ∧ q.2.2.2.1 ≠ 6) : ∃ m, MT[q.2.2.1]? = some m ∧ gcw (own q.1) q.2.1 m.1 m.2.1 m.2.2.1 m.2.2.2.1 q.2.2.2.2 ∧
    (q.2.2.2.1 = 0 → Cond.methodLink (own q.1) q.2.1 m.1 ∈ TW ∧ Cond.instanceMethod m.1 ∈ TW ∧ Cond.selects m.1.cls m.1 m.1 ∈ TW) ∧ (q.2.2.2.1 = 1 → Cond.methodLink (own q.1) q.2.1 m.1 ∈ TW ∧ Cond.static m.1 ∈ TW) ∧
    (q.2.2.2.1 = 2 → Cond.methodLinkNest (own q.1) q.2.1 m.1 "TwinVoice" ∈ gNW ∧ Cond.instanceMethod m.1 ∈ TW ∧ Cond.selects m.1.cls m.1 m.1 ∈ TW) ∧ (q.2.2.2.1 = 3 → Cond.methodLinkNest (own q.1) q.2.1 m.1 "TwinVoice" ∈ gNW ∧ Cond.static m.1 ∈ TW) := by
  unfold lkP at h
  split at h
  · rename_i e; exact absurd e hf.1
  · rename_i e; exact absurd e hf.2.1
  · rename_i e; exact absurd e hf.2.2
  · exact h
theorem lk6 {own : Nat → String} {q : tL} (h : lkP MT own q) (hf : q.2.2.2.1 = 6) : if q.2.2.1 - 9100 < 14 then lenW (own q.1) q.2.1 else chaW (own q.1) q.2.1 := by
  unfold lkP at h
  rw [hf] at h
  exact h
theorem lk5 {own : Nat → String} {q : tL} (h : lkP MT own q) (hf : q.2.2.2.1 = 5) : mathRow (own q.1) q.2.1 (q.2.2.1 - 9000) = true := by
  unfold lkP at h
  rw [hf] at h
  exact h
theorem lk4 {own : Nat → String} {q : tL} (h : lkP MT own q) (hf : q.2.2.2.1 = 4) : Cond.methodLink (own q.1) q.2.1 arraycopyName ∈ TW := by
  unfold lkP at h
  rw [hf] at h
  exact h
theorem recv2 {X : gX} (hG : gXG X = kG) (kg1 : chkG kG kGb = true) (hM : ∀ m ∈ MT, chkM m = true) {mj : tM} {cc : sC} {np : Nat} (hmj : mj ∈ MT) (hr : chkR mj cc np = true) : ∃ (k : Nat) (gs : List sG) (ci : Nat) (fs : List gF) (T : u_T) (N : Nat), cc.1 = .inr (.inr (some k)) :: gs ∧ gs.length = np ∧ (gXG X)[k]? = some (.inl (ci, fs)) ∧ vwCl[ci]? = some (mj.1.cls, T, N) := by
  unfold chkR at hr
  split at hr
  · rename_i k gs ek
    simp only [Bool.and_eq_true, Nat.beq_eq] at hr
    obtain ⟨r1, r2⟩ := hr
    split at r2
    · rename_i ci fs eg
      rw [Nat.beq_eq] at r2
      rw [chkG_ok kg1] at eg
      have hcj := hM mj hmj
      unfold chkM at hcj
      simp only [Bool.and_eq_true] at hcj
      have h6 := hcj.2.2.2
      rw [← r2] at h6
      have hci : ∃ r, vwCl[ci]? = some r := by
        have hall : kG.all (fun g => match g with | .inl (ci, _) => Nat.blt ci 13 | _ => true) = true := by decide +kernel
        have := List.all_eq_true.mp hall _ (List.mem_of_getElem? eg)
        simp only [Nat.blt_eq] at this
        exact ⟨_, List.getElem?_eq_getElem (show ci < vwCl.length from this)⟩
      obtain ⟨⟨C, T, N⟩, hr⟩ := hci
      rw [hr] at h6
      have e6 : C = mj.1.cls := of_decide_eq_true h6
      subst e6
      exact ⟨k, gs, ci, fs, T, N, ek, r1, by rw [hG]; exact eg, hr⟩
    · cases r2
  · cases hr
/-- calls of a frame, out of the rows ahead -/
theorem tab_giv {l : Launch} {X : gX} {adV : Nat → Nat} {i : Nat} {y : MethodName} {cb : ByteArray} {maxL : Nat} {ret : Option FieldType} {Post : Option gV → gM → Prop} (hI : gIn X adV l (i + 5) y cb maxL ret kG Post) (hM : ∀ m ∈ MT, chkM m = true) (hL : ∀ q ∈ LT, lkP MT ownN q) (ih : tabTo l F MT CT i)
    (hs : ∀ c m, bAt CT see = some c → MT[c.1]? = some m → cMetQ l (see + 5) m.1 m.2.1 m.2.2.1 m.2.2.2.1 kG kP F 3748 (sSeeQ F) c.2.1) {cls : Nat} (hown : gXo X = ownN cls) {q : Nat × Nat × Nat × List Nat} (hcq : chkCall2 MT CT LT see i cls q = true) :
    (q.2.1 = 0 → ∀ j ∈ q.2.2.2, sGiv X kP F 3748 (.invokevirtual q.1) (tCon2 CT j)) ∧ (q.2.1 = 1 → ∀ j ∈ q.2.2.2, sGiv X kP F 3748 (.invokestatic q.1) (tCon2 CT j)) ∧ (q.2.1 = 2 → sGivCopy X kP F q.1) ∧ (q.2.1 = 3 → ∀ j ∈ q.2.2.2, sGivQ X kP F 3748 (.invokevirtual q.1) (sSeeQ F) (tCon2 CT j)) := by
  have hI' := hI
  obtain ⟨hOK, hOE, hl, hR, hG, hy, hn, ho, hQ, hr, hlk, hA⟩ := hI'
  have hrm : gRm X (i + 5) := .inl hR
  unfold chkCall2 at hcq
  have row : ∀ (kd j : Nat), q.2.1 = kd → kd ≠ 2 → j ∈ q.2.2.2 → (kd = 1 ∧ ∃ t, t < 4 ∧ tCon2 CT j = kMath t ∧ mathRow (gXo X) q.1 t = true) ∨ (kd = 0 ∧ ∃ t, t < 28 ∧ tCon2 CT j = kStr t ∧ (if t < 14 then lenW (gXo X) q.1 else chaW (gXo X) q.1)) ∨ ∃ (cj : tC) (mj : tM) (f : Nat × Nat), (¬ Nat.ble 9000 cj.1 = true) ∧ j < i ∧ bAt CT j = some cj ∧ MT[cj.1]? = some mj ∧ (cls, q.1, cj.1, f) ∈ LT ∧ (match kd with
      | 0 => (Nat.beq f.1 0 || Nat.beq f.1 2) && chkR mj cj.2.1 f.2
      | 1 => (Nat.beq f.1 1 || Nat.beq f.1 3) && Nat.beq cj.2.1.1.length f.2
      | 3 => Nat.beq j see && ((Nat.beq f.1 0 || Nat.beq f.1 2) && chkR mj cj.2.1 f.2)
      | _ => false) = true := by
    intro kd j hk hk2 hj
    rw [if_neg (by rw [Nat.beq_eq, hk]; exact hk2)] at hcq
    have hj2 := List.all_eq_true.mp hcq j hj
    simp only [Bool.and_eq_true, Nat.blt_eq] at hj2
    obtain ⟨j1, j2⟩ := hj2
    split at j2
    · cases j2
    · rename_i cj ecj
      split at j2
      · rename_i c9
        split at j2
        · rename_i c91
          rw [Nat.ble_eq] at c91
          simp only [Bool.and_eq_true, Nat.beq_eq, Nat.blt_eq] at j2
          obtain ⟨k1, k2, k4⟩ := j2
          split at k4
          · rename_i f ef
            rw [Nat.beq_eq] at k4
            refine .inr (.inl ⟨by omega, cj.1 - 9100, k2, ?_, ?_⟩)
            · unfold tCon2
              rw [ecj]
              show (if Nat.ble 9000 cj.1 = true then kGiv (cj.1 - 9000) else cj.2.1) = _
              rw [if_pos c9]
              unfold kGiv
              rw [if_neg (by omega), show cj.1 - 9000 - 100 = cj.1 - 9100 by omega]
            · have h6 := lk6 (hL _ (tFlag_mem _ _ _ _ _ ef)) k4
              rw [hown]
              exact h6
          · cases k4
        · rename_i c91
          simp only [Bool.and_eq_true, Nat.beq_eq, Nat.blt_eq] at j2
          obtain ⟨k1, k2, k4⟩ := j2
          split at k4
          · rename_i f ef
            rw [Nat.beq_eq] at k4
            refine .inl ⟨by omega, cj.1 - 9000, k2, ?_, ?_⟩
            · unfold tCon2
              rw [ecj]
              show (if Nat.ble 9000 cj.1 = true then kGiv (cj.1 - 9000) else cj.2.1) = _
              rw [if_pos c9]
              unfold kGiv
              rw [if_pos (by omega)]
            · have h5 := lk5 (hL _ (tFlag_mem _ _ _ _ _ ef)) k4
              rw [hown]
              exact h5
          · cases k4
      · rename_i c9n
        split at j2
        · cases j2
        · rename_i mj emj
          split at j2
          · cases j2
          · rename_i f ef
            rw [hk] at j2
            exact .inr (.inr ⟨cj, mj, f, c9n, j1, ecj, emj, tFlag_mem _ _ _ _ _ ef, j2⟩)
  have et : ∀ {j : Nat} {cj : tC}, bAt CT j = some cj → (¬ Nat.ble 9000 cj.1 = true) → tCon2 CT j = cj.2.1 := fun {j cj} e h9 => by
    unfold tCon2
    rw [e]
    exact if_neg h9
  have hfl : ∀ {a : Nat} {cj1 : Nat} {f : Nat × Nat}, (f.1 = 0 ∨ f.1 = 2 ∨ f.1 = 1 ∨ f.1 = 3) → ((cls, a, cj1, f) : tL).2.2.2.1 ≠ 4 ∧ ((cls, a, cj1, f) : tL).2.2.2.1 ≠ 5 ∧ ((cls, a, cj1, f) : tL).2.2.2.1 ≠ 6 := fun {a cj1 f} h => by
    show f.1 ≠ 4 ∧ f.1 ≠ 5 ∧ f.1 ≠ 6
    omega
  refine ⟨fun hk j hj => ?_, fun hk j hj => ?_, fun hk => ?_, fun hk j hj => ?_⟩
  · obtain ⟨z, -⟩ | ⟨-, t, ht, ec, hw⟩ | ⟨cj, mj, f, j9, j1, j2, j3, j4, j5⟩ := row 0 j hk (by omega) hj
    · exact absurd z (by omega)
    · rw [ec]
      exact giv_str hOK hOE hA hG hrm (by omega) ht hw
    simp only [Bool.and_eq_true, Bool.or_eq_true, Nat.beq_eq] at j5
    obtain ⟨k, gs, ci, fs, T, N, r1, r2, r3, r4⟩ := recv2 hG kg1 hM (List.mem_of_getElem? j3) j5.2
    obtain ⟨mj', em, hgcw, w0, w1, w2, w3⟩ := lkP_of (hL _ j4) (hfl (by omega))
    cases j3.symm.trans em
    have hMj := ih j j1 cj mj j2 j3
    rw [← hl, ← hG] at hMj
    simp only at hgcw w0 w2
    rw [← hown] at hgcw w0 w2
    rw [et j2 j9]
    rcases j5.1 with z | z
    · obtain ⟨v1, v2, v3⟩ := w0 z
      exact giv_virtual (d' := j + 5) hOK hOE hrm (by omega) hMj hgcw v1 v2 v3 r1 r3 r4 r2
    · obtain ⟨v1, v2, v3⟩ := w2 z
      exact giv_virtualN (d' := j + 5) hOK hOE hrm (by omega) hMj hgcw v1 v2 v3 r1 r3 r4 r2
  · obtain ⟨-, t, ht, ec, hw⟩ | ⟨z, -⟩ | ⟨cj, mj, f, j9, j1, j2, j3, j4, j5⟩ := row 1 j hk (by omega) hj
    · rw [ec]
      exact giv_math hOK hrm ht hw
    · exact absurd z (by omega)
    simp only [Bool.and_eq_true, Bool.or_eq_true, Nat.beq_eq] at j5
    obtain ⟨mj', em, hgcw, w0, w1, w2, w3⟩ := lkP_of (hL _ j4) (hfl (by omega))
    cases j3.symm.trans em
    have hMj := ih j j1 cj mj j2 j3
    rw [← hl, ← hG] at hMj
    simp only at hgcw w1 w3
    rw [← hown] at hgcw w1 w3
    rw [et j2 j9]
    rcases j5.1 with z | z
    · obtain ⟨v1, v2⟩ := w1 z
      exact giv_static (d' := j + 5) hOK hOE hrm (by omega) hMj hgcw v1 v2 j5.2
    · obtain ⟨v1, v2⟩ := w3 z
      exact giv_staticN (d' := j + 5) hOK hOE hrm (by omega) hMj hgcw v1 v2 j5.2
  · rw [if_pos (by rw [Nat.beq_eq]; exact hk)] at hcq
    split at hcq
    · rename_i f ef
      rw [Nat.beq_eq] at hcq
      have hw := lk4 (hL _ (tFlag_mem _ _ _ _ _ ef)) hcq
      simp only at hw
      rw [← hown] at hw
      have hEG := (chk_envG (X := X) (E := kE0) (by rw [hG]; exact kg1) (by rw [hG]; exact kg2) kg3 (by rw [hG]; exact kg4)).1
      exact g_copy (E := kE0) (adV := adV) hOK hEG hrm (by omega) hw (by decide +kernel) (by decide +kernel) (by decide +kernel)
    · cases hcq
  · obtain ⟨z, -⟩ | ⟨z, -⟩ | ⟨cj, mj, f, j9, j1, j2, j3, j4, j5⟩ := row 3 j hk (by omega) hj
    · exact absurd z (by omega)
    · exact absurd z (by omega)
    simp only [Bool.and_eq_true, Bool.or_eq_true, Nat.beq_eq] at j5
    obtain ⟨j6, j5⟩ := j5
    obtain ⟨k, gs, ci, fs, T, N, r1, r2, r3, r4⟩ := recv2 hG kg1 hM (List.mem_of_getElem? j3) j5.2
    obtain ⟨mj', em, hgcw, w0, w1, w2, w3⟩ := lkP_of (hL _ j4) (hfl (by omega))
    cases j3.symm.trans em
    have hMj := hs cj mj (by rw [← j6]; exact j2) j3
    rw [← hl, ← hG] at hMj
    simp only at hgcw w0 w2
    rw [← hown] at hgcw w0 w2
    rw [et j2 j9]
    rcases j5.1 with z | z
    · obtain ⟨v1, v2, v3⟩ := w0 z
      exact givQ_virtual (d' := see + 5) hOK hOE hrm (by omega) hMj hgcw v1 v2 v3 r1 r3 r4 r2
    · obtain ⟨v1, v2, v3⟩ := w2 z
      exact givQ_virtualN (d' := see + 5) hOK hOE hrm (by omega) hMj hgcw v1 v2 v3 r1 r3 r4 r2
theorem tab2_ok (l : Launch) (h01 : ∀ mu, ∀ j ∈ sGh, 0 ≤ F (sGk j) 0 mu ∧ F (sGk j) 0 mu ≤ 1) (hF : ∀ E : sE, E.DG = kDG → E.DS = kDS → sEnvF E F)
    (hM : ∀ m ∈ MT, chkM m = true) (hE : ∀ m ∈ MT, envOf kDG kDS m.2.2.2.2.2.2.1 ∧ chkW m.1.cls m.2.2.2.2.2.2.1 = true ∧ chkK m.2.1 m.2.2.1 m.2.2.2.2.2.2.2 = true) (hL : ∀ q ∈ LT, lkP MT ownN q)
    (hand : Nat → Bool) (hb : ∀ i c m, hand i = true → bAt CT i = some c → MT[c.1]? = some m → tabTo l F MT CT i → cMet l (i + 5) m.1 m.2.1 m.2.2.1 m.2.2.2.1 kG kP F 3748 c.2.1) (hs : ∀ c m, bAt CT see = some c → MT[c.1]? = some m → cMetQ l (see + 5) m.1 m.2.1 m.2.2.1 m.2.2.2.1 kG kP F 3748 (sSeeQ F) c.2.1)
    (hC : ∀ i, hand i = false → chkCon2 MT CT LT see i = true) : ∀ (i : Nat), tabTo l F MT CT i := by
  intro i
  induction i with
  | zero => exact fun j hj => absurd hj (Nat.not_lt_zero j)
  | succ i ih =>
    intro j hj c m hc hm
    by_cases hji : j < i
    · exact ih j hji c m hc hm
    obtain rfl : j = i := by omega
    cases hh : hand j with
    | true => exact hb j c m hh hc hm ih
    | false =>
      have h := hC j hh
      unfold chkCon2 at h
      rw [hc] at h
      simp only at h
      rw [hm] at h
      simp only [Bool.and_eq_true, Bool.or_eq_true, Nat.ble_eq, Nat.blt_eq, List.isEmpty_iff] at h
      obtain ⟨h1, h2, h3, h4⟩ := h
      have hmm := List.mem_of_getElem? hm
      have hcm := hM m hmm
      unfold chkM at hcm
      simp only [Bool.and_eq_true, Nat.ble_eq] at hcm
      obtain ⟨m1, m2, m5, m6⟩ := hcm
      obtain ⟨⟨e1, e2, e3, e4, e5⟩, m3, m4⟩ := hE m hmm
      have key := check_ok (Y := tY2 CT m c) (F := F) h4 (l := l) (d := j + 5) (y := m.1) (cb := m.2.1) (maxL := m.2.2.1) (ret := m.2.2.2.1) (G := kG) (sRtOKb_ok m2) m1 (fun av ha => by rw [sGc_ok _ _ ha]; exact h2) h01
        (fun p g e => by
          have e : spAt m.2.2.2.2.2.2.1.P p = some g := e
          rw [e1] at e
          exact chk_PM kg3 kg5 p g e)
        (by
          show sOwn m.2.2.2.2.2.2.1.P kG
          rw [e1]
          exact chk_own kg4)
        (fun X adV Post hI => by
          refine ⟨sStep_ok hI.1 (env_ok hI (E := m.2.2.2.2.2.2.1) (C := m.2.2.2.2.2.2.2) (by rw [e3]; exact kg1) kg2 (by rw [e1, e2]; exact kg3) (by rw [e1]; exact kg4) (hF _ e4 e5) m3 m4) h01 ?_, ?_⟩
          · have hown : m.2.2.2.2.2.1 < 13 → gXo X = ownN m.2.2.2.2.2.1 := fun hlt => by
              rw [hI.2.2.2.2.2.2.2.1]
              unfold ownN
              cases ev : vwCl[m.2.2.2.2.2.1]? with
              | none =>
                have := List.getElem?_eq_none_iff.mp ev
                have : vwCl.length = 13 := rfl
                omega
              | some r =>
                rw [ev] at m6
                exact (of_decide_eq_true m6).symm
            intro idx e he
            have hmem := aFind_mem _ _ _ he
            have hmem : (idx, e) ∈ c.2.2.2.2.2.map (fun q => (q.1, q.2.1, q.2.2.1, q.2.2.2.map (fun j => (j, tCon2 CT j)))) := hmem
            obtain ⟨q, hq, hqe⟩ := List.mem_map.mp hmem
            cases hqe
            have h13 : m.2.2.2.2.2.1 < 13 := by
              rcases h1 with h1 | h1
              · exact h1
              · rw [h1] at hq
                exact absurd hq List.not_mem_nil
            have hcq := List.all_eq_true.mp h3 q hq
            obtain ⟨g0, g1, g2, g3⟩ := tab_giv (see := see) hI hM hL ih hs (hown h13) hcq
            show (q.2.1 = 0 → ∀ c' ∈ q.2.2.2.map (fun j => (j, tCon2 CT j)), sGiv X m.2.2.2.2.2.2.1.P F 3748 (.invokevirtual q.1) c'.2) ∧ (q.2.1 = 1 → ∀ c' ∈ q.2.2.2.map (fun j => (j, tCon2 CT j)), sGiv X m.2.2.2.2.2.2.1.P F 3748 (.invokestatic q.1) c'.2) ∧ (q.2.1 = 2 → sGivCopy X m.2.2.2.2.2.2.1.P F q.1) ∧ (q.2.1 = 3 → ∀ c' ∈ q.2.2.2.map (fun j => (j, tCon2 CT j)), sGivQ X m.2.2.2.2.2.2.1.P F 3748 (.invokevirtual q.1) (sSeeQ F) c'.2)
            rw [e1]
            refine ⟨fun hk c' hc' => ?_, fun hk c' hc' => ?_, g2, fun hk c' hc' => ?_⟩
            · obtain ⟨j', hj', rfl⟩ := List.mem_map.mp hc'
              exact g0 hk j' hj'
            · obtain ⟨j', hj', rfl⟩ := List.mem_map.mp hc'
              exact g1 hk j' hj'
            · obtain ⟨j', hj', rfl⟩ := List.mem_map.mp hc'
              exact g3 hk j' hj'
          · have hk := chkK_ok (X := X) (C := m.2.2.2.2.2.2.2) (by rw [hI.2.2.2.2.2.1, hI.2.2.2.2.2.2.1]; exact m4)
            exact hk.1)
      have key2 : cMet l (j + 5) m.1 m.2.1 m.2.2.1 m.2.2.2.1 kG m.2.2.2.2.2.2.1.P F 3748 c.2.1 := key
      rw [e1] at key2
      exact key2
end TABS2
