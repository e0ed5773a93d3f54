/-! TABLES OF CONTRACTS: every contract of a table is kept, by the checks of all -/
def bAt {α : Type} (B : List (List α)) (k : Nat) : Option α := match B[k / 32]? with
  | some b => b[k % 32]?
  | none => none
/-- a method: name, bytes, locals, answer's type, its kind, number of its class, pool, listing -/
abbrev tM : Type := MethodName × ByteArray × Nat × Option FieldType × Nat × Nat × sE × sCode
/-- a contract: its method, itself, loops, splits, heads passed by, calls (pool number, kind, arguments, contracts by number) -/
abbrev tC : Type := Nat × sC × List (Nat × List sH) × List (Nat × Nat) × List (Nat × Nat × Nat) × List (Nat × Nat × Nat × List Nat)
/-- a link: class, pool number, method, kind (0 virtual, 1 static, 2 virtual by a nest mate, 3 static by a nest mate, 4 arraycopy), how many parameters -/
abbrev tL : Type := Nat × Nat × Nat × Nat × Nat
def tCon (CT : List (List tC)) (j : Nat) : sC := match bAt CT j with
  | some c => if Nat.ble 9000 c.1 then kMath (c.1 - 9000) else c.2.1
  | none => ([], [], [], [])
def tY (CT : List (List tC)) (m : tM) (c : tC) : sY1 := (3748, m.2.2.2.2.2.2.1, m.2.2.2.2.2.2.2, c.2.2.1, c.2.2.2.1, c.2.2.2.2.1, c.2.2.2.2.2.map (fun q => (q.1, q.2.1, q.2.2.1, q.2.2.2.map (fun j => (j, tCon CT j)))))
def sRtOKb (rt : Nat) (r : Option FieldType) : Bool := match rt, r with
  | 0, some .int => true
  | 1, some .boolean => true
  | 2, some .long => true
  | 3, some (.object _) => true
  | 4, none => true
  | _, _ => false
theorem sRtOKb_ok {rt : Nat} {r : Option FieldType} (h : sRtOKb rt r = true) : sRtOK rt r := by
  unfold sRtOKb at h
  split at h
  · rfl
  · rfl
  · rfl
  · exact ⟨_, rfl⟩
  · rfl
  · cases h
def chkM (m : tM) : Bool := plainName m.1.cls && (sRtOKb m.2.2.2.2.1 m.2.2.2.1 && (Nat.ble m.2.2.1 40 && ((match vwCl[m.2.2.2.2.2.1]? with
  | some r => decide (r.1 = m.1.cls)
  | none => true))))
/-- a method's pool stands over the graph's tables -/
def envOf (DG : List (Nat × Nat)) (DS : List (Nat × Nat)) (E : sE) : Prop := E.P = kP ∧ E.Q = kQ ∧ E.G = kGb ∧ E.DG = DG ∧ E.DS = DS
def sGc : sG → Nat
  | .inr (.inl _) => 2
  | _ => 1
theorem sGc_ok : ∀ (gs : List sG) (av : List gV), gArgOK gs av → (av.map gcat).sum = (gs.map sGc).sum
  | [], [], _ => rfl
  | [], _ :: _, h => by cases h
  | g :: gs, [], h => by rcases g with g | g | g <;> cases h
  | g :: gs, v :: av, h => by
    rcases g with g | g | g <;> rcases v with (v | v) | v <;> first | (cases h; done) | (simp only [List.map_cons, List.sum_cons, gcat, sGc]; rw [sGc_ok gs av h.2])
/-- the words of a link -/
def chkL (MT : List tM) (own : Nat → String) (q : tL) : Bool := match q.2.2.2.1 with
  | 4 => decide (Jvm.Cond.methodLink (own q.1) q.2.1 arraycopyName ∈ TW)
  | 5 => mathRow (own q.1) q.2.1 (q.2.2.1 - 9000)
  | k => (match MT[q.2.2.1]? with
    | none => false
    | some m => decide (Jvm.Cond.code m.1 m.2.1 m.2.2.1 m.2.2.2.1 ∈ TW) && (decide (Jvm.Cond.initialized m.1.cls ∈ TW) && (decide (m.1.cls ≠ "java/lang/invoke/MethodHandle" ∧ m.1.cls ≠ "java/lang/invoke/VarHandle") && (decide ((parseMethodDescriptor m.1.desc).map (fun d => d.parameters.length) = some q.2.2.2.2) && (match k with
      | 0 => decide (Jvm.Cond.methodLink (own q.1) q.2.1 m.1 ∈ TW) && (decide (Jvm.Cond.instanceMethod m.1 ∈ TW) && decide (Jvm.Cond.selects m.1.cls m.1 m.1 ∈ TW))
      | 1 => decide (Jvm.Cond.methodLink (own q.1) q.2.1 m.1 ∈ TW) && decide (Jvm.Cond.static m.1 ∈ TW)
      | 2 => decide (Jvm.Cond.methodLinkNest (own q.1) q.2.1 m.1 "TwinVoice" ∈ gNW) && (decide (Jvm.Cond.instanceMethod m.1 ∈ TW) && decide (Jvm.Cond.selects m.1.cls m.1 m.1 ∈ TW))
      | 3 => decide (Jvm.Cond.methodLinkNest (own q.1) q.2.1 m.1 "TwinVoice" ∈ gNW) && decide (Jvm.Cond.static m.1 ∈ TW)
      | _ => false)))))
/-- an object of its class stands at the contract's first argument -/
def chkR (m : tM) (c : sC) (np : Nat) : Bool := match c.1 with
  | .inr (.inr (some k)) :: gs => Nat.beq gs.length np && (match gAt kGb k with
    | some (.inl (ci, _)) => Nat.beq ci m.2.2.2.2.2.1
    | _ => false)
  | _ => false
def tFlag (LT : List tL) (cls idx mj : Nat) : Option (Nat × Nat) := match LT with
  | [] => none
  | q :: r => if Nat.beq q.1 cls && (Nat.beq q.2.1 idx && Nat.beq q.2.2.1 mj) then some q.2.2.2 else tFlag r cls idx mj
/-- a call's row: the contracts stand ahead, and the link is there -/
def chkCall (MT : List tM) (CT : List (List tC)) (LT : List tL) (see i cls : Nat) (q : Nat × Nat × Nat × List Nat) : Bool := if Nat.beq q.2.1 2 then (match tFlag LT cls q.1 9999 with | some f => Nat.beq f.1 4 | none => false) else
  q.2.2.2.all (fun j => Nat.blt j i && (match bAt CT j with
    | none => false
    | some cj => if Nat.ble 9000 cj.1 then Nat.beq q.2.1 1 && (Nat.blt (cj.1 - 9000) 4 && (match tFlag LT cls q.1 cj.1 with
      | some f => Nat.beq f.1 5
      | none => false)) else (match MT[cj.1]? with
      | none => false
      | some m => (match tFlag LT cls q.1 cj.1 with
        | none => false
        | some f => (match q.2.1 with
          | 0 => (Nat.beq f.1 0 || Nat.beq f.1 2) && chkR m cj.2.1 f.2
          | 1 => (Nat.beq f.1 1 || Nat.beq f.1 3) && Nat.beq cj.2.1.1.length f.2
          | 3 => Nat.beq j see && ((Nat.beq f.1 0 || Nat.beq f.1 2) && chkR m cj.2.1 f.2)
          | _ => false)))))
def chkCon (MT : List tM) (CT : List (List tC)) (LT : List tL) (see i : Nat) : Bool := match bAt CT i with
  | none => true
  | some c => (match MT[c.1]? with
    | none => false
    | some m => (Nat.blt m.2.2.2.2.2.1 13 || c.2.2.2.2.2.isEmpty) && (Nat.ble (c.2.1.1.map sGc).sum m.2.2.1 && (c.2.2.2.2.2.all (chkCall MT CT LT see i m.2.2.2.2.2.1) && sCheck (tY CT m c) m.2.2.2.2.1 3000 c.2.1)))
def ownN (k : Nat) : String := match vwCl[k]? with
  | some r => r.1
  | none => ""
theorem tFlag_mem : ∀ (LT : List tL) (a b c : Nat) (f : Nat × Nat), tFlag LT a b c = some f → (a, b, c, f) ∈ LT
  | [], _, _, _, _, e => by cases e
  | q :: r, a, b, c, f, e => by
    simp only [tFlag] at e
    split at e
    · rename_i h
      simp only [Bool.and_eq_true, Nat.beq_eq] at h
      obtain ⟨rfl, rfl, rfl⟩ := h
      cases e
      exact List.mem_cons_self
    · exact List.mem_cons_of_mem _ (tFlag_mem r a b c f e)
def kDG : List (Nat × Nat) := [(2460, 3259), (2039, 2039), (2038, 2038), (2037, 2037), (2041, 2041)]
def kDS : List (Nat × Nat) := [(2460, 3259), (2036, 2036)]
section TABS
variable {F : Nat → Int → gM → Int} {MT : List tM} {LT : List tL} {CT : List (List tC)} {see : Nat}
theorem chkL_gcw {own : Nat → String} {q : tL} {m : tM} (h : chkL MT own q = true) (hf : q.2.2.2.1 ≠ 4 ∧ q.2.2.2.1 ≠ 5) (hm : MT[q.2.2.1]? = some m) (h40 : m.2.2.1 ≤ 40) : gcw (own q.1) q.2.1 m.1 m.2.1 m.2.2.1 m.2.2.2.1 q.2.2.2.2 := by
  unfold chkL at h
  split at h
  · rename_i e
    exact absurd e hf.1
  · rename_i e
    exact absurd e hf.2
  · rw [hm] at h
    simp only [Bool.and_eq_true, decide_eq_true_eq] at h
    obtain ⟨h1, h2, h3, h4, -⟩ := h
    refine ⟨fun w hw => ?_, ⟨h3.1, h3.2, h4⟩, h40⟩
    simp only [List.mem_cons, List.not_mem_nil, or_false] at hw
    rcases hw with rfl | rfl
    · exact h1
    · exact h2
theorem chkL_words {own : Nat → String} {q : tL} {m : tM} (h : chkL MT own q = true) (hf : q.2.2.2.1 ≠ 4 ∧ q.2.2.2.1 ≠ 5) (hm : MT[q.2.2.1]? = some m) :
    (q.2.2.2.1 = 0 → Jvm.Cond.methodLink (own q.1) q.2.1 m.1 ∈ TW ∧ Jvm.Cond.instanceMethod m.1 ∈ TW ∧ Jvm.Cond.selects m.1.cls m.1 m.1 ∈ TW) ∧ (q.2.2.2.1 = 1 → Jvm.Cond.methodLink (own q.1) q.2.1 m.1 ∈ TW ∧ Jvm.Cond.static m.1 ∈ TW) ∧
    (q.2.2.2.1 = 2 → Jvm.Cond.methodLinkNest (own q.1) q.2.1 m.1 "TwinVoice" ∈ gNW ∧ Jvm.Cond.instanceMethod m.1 ∈ TW ∧ Jvm.Cond.selects m.1.cls m.1 m.1 ∈ TW) ∧ (q.2.2.2.1 = 3 → Jvm.Cond.methodLinkNest (own q.1) q.2.1 m.1 "TwinVoice" ∈ gNW ∧ Jvm.Cond.static m.1 ∈ TW) := by
  unfold chkL at h
  split at h
  · rename_i e
    exact absurd e hf.1
  · rename_i e
    exact absurd e hf.2
  · rw [hm] at h
    simp only [Bool.and_eq_true, decide_eq_true_eq] at h
    obtain ⟨-, -, -, -, h5⟩ := h
    refine ⟨fun e => ?_, fun e => ?_, fun e => ?_, fun e => ?_⟩ <;> rw [e] at h5 <;> simpa only [Bool.and_eq_true, decide_eq_true_eq] using h5
theorem tab_ok (l : Launch) (h01 : ∀ mu, ∀ j ∈ sGh, 0 ≤ F (sGk j) 0 mu ∧ F (sGk j) 0 mu ≤ 1) (hF : ∀ E : sE, E.DG = kDG → E.DS = kDS → sEnvF E F) (kg1 : chkG kG kGb = true) (kg2 : glay 0 kG = true) (kg3 : chkP kP kQ = true) (kg4 : kG.all (chkC kP) = true) (kg5 : kQ.all (fun q => Nat.ble q.2.1 3748) = true)
    (hM : ∀ m ∈ MT, chkM m = true) (hE : ∀ m ∈ MT, envOf kDG kDS m.2.2.2.2.2.2.1 ∧ chkW m.1.cls m.2.2.2.2.2.2.1 = true ∧ chkK m.2.1 m.2.2.1 m.2.2.2.2.2.2.2 = true) (hL : ∀ q ∈ LT, chkL MT ownN q = true)
    (base : Nat) (hb : ∀ i c m, i < base → bAt CT i = some c → MT[c.1]? = some m → cMet l (i + 5) m.1 m.2.1 m.2.2.1 m.2.2.2.1 kG kP F 3748 c.2.1) (hs : ∀ c m, bAt CT see = some c → MT[c.1]? = some m → cMetQ l (see + 5) m.1 m.2.1 m.2.2.1 m.2.2.2.1 kG kP F 3748 (sSeeQ F) c.2.1)
    (hlen : base + 32 * CT.length < 1300) (hC : ∀ i, base ≤ i → chkCon MT CT LT see i = true) : ∀ (i : Nat) (c : tC) (m : tM), bAt CT i = some c → MT[c.1]? = some m → cMet l (i + 5) m.1 m.2.1 m.2.2.1 m.2.2.2.1 kG kP F 3748 c.2.1 := by
  intro i
  induction i using Nat.strongRecOn with
  | ind i ih =>
    intro c m hc hm
    by_cases hbase : i < base
    · exact hb i c m hbase hc hm
    have h := hC i (by omega)
    unfold chkCon at h
    rw [hc] at h
    simp only at h
    rw [hm] at h
    simp only [Bool.and_eq_true, Bool.or_eq_true, Nat.ble_eq, Nat.blt_eq, List.isEmpty_iff] at h
    obtain ⟨h1, h2, h3, h4⟩ := h
    have hmm := List.mem_of_getElem? hm
    have hcm := hM m hmm
    unfold chkM at hcm
    simp only [Bool.and_eq_true, Nat.ble_eq] at hcm
    obtain ⟨m1, m2, m5, m6⟩ := hcm
    obtain ⟨⟨e1, e2, e3, e4, e5⟩, m3, m4⟩ := hE m hmm
    have key := check_ok (Y := tY CT m c) (F := F) h4 (l := l) (d := i + 5) (y := m.1) (cb := m.2.1) (maxL := m.2.2.1) (ret := m.2.2.2.1) (G := kG) (sRtOKb_ok m2) m1 (fun av ha => by rw [sGc_ok _ _ ha]; exact h2) h01
      (fun p g e => by
        have e : spAt m.2.2.2.2.2.2.1.P p = some g := e
        rw [e1] at e
        exact chk_PM kg3 kg5 p g e)
      (by
        show sOwn m.2.2.2.2.2.2.1.P kG
        rw [e1]
        exact chk_own kg4)
      (fun X adV Post hI => by
        refine ⟨sStep_ok hI.1 (env_ok hI (E := m.2.2.2.2.2.2.1) (C := m.2.2.2.2.2.2.2) (by rw [e3]; exact kg1) kg2 (by rw [e1, e2]; exact kg3) (by rw [e1]; exact kg4) (hF _ e4 e5) m3 m4) h01 ?_, ?_⟩
        · obtain ⟨hOK, hOE, hl, hR, hG, hy, hn, ho, -⟩ := hI
          have hown : m.2.2.2.2.2.1 < 13 → gXo X = ownN m.2.2.2.2.2.1 := fun hlt => by
            rw [ho]
            unfold ownN
            cases ev : vwCl[m.2.2.2.2.2.1]? with
            | none =>
              have := List.getElem?_eq_none_iff.mp ev
              have : vwCl.length = 13 := rfl
              omega
            | some r =>
              rw [ev] at m6
              exact (of_decide_eq_true m6).symm
          intro idx e he
          have hmem := aFind_mem _ _ _ he
          have hmem : (idx, e) ∈ c.2.2.2.2.2.map (fun q => (q.1, q.2.1, q.2.2.1, q.2.2.2.map (fun j => (j, tCon CT j)))) := hmem
          obtain ⟨q, hq, hqe⟩ := List.mem_map.mp hmem
          cases hqe
          have h13 : m.2.2.2.2.2.1 < 13 := by
            rcases h1 with h1 | h1
            · exact h1
            · rw [h1] at hq
              exact absurd hq List.not_mem_nil
          have hcq := List.all_eq_true.mp h3 q hq
          have hrm : gRm X (i + 5) := .inl hR
          unfold chkCall at hcq
          show (q.2.1 = 0 → ∀ c' ∈ q.2.2.2.map (fun j => (j, tCon CT j)), sGiv X m.2.2.2.2.2.2.1.P F 3748 (.invokevirtual q.1) c'.2) ∧ (q.2.1 = 1 → ∀ c' ∈ q.2.2.2.map (fun j => (j, tCon CT j)), sGiv X m.2.2.2.2.2.2.1.P F 3748 (.invokestatic q.1) c'.2) ∧ (q.2.1 = 2 → sGivCopy X m.2.2.2.2.2.2.1.P F q.1) ∧ (q.2.1 = 3 → ∀ c' ∈ q.2.2.2.map (fun j => (j, tCon CT j)), sGivQ X m.2.2.2.2.2.2.1.P F 3748 (.invokevirtual q.1) (sSeeQ F) c'.2)
          have row : ∀ (kd j : Nat), q.2.1 = kd → kd ≠ 2 → j ∈ q.2.2.2 → (kd = 1 ∧ ∃ t, t < 4 ∧ tCon CT j = kMath t ∧ mathRow (gXo X) q.1 t = true) ∨ ∃ (cj : tC) (mj : tM) (f : Nat × Nat), (¬ Nat.ble 9000 cj.1 = true) ∧ j < i ∧ bAt CT j = some cj ∧ MT[cj.1]? = some mj ∧ (m.2.2.2.2.2.1, q.1, cj.1, f) ∈ LT ∧ (match kd with
              | 0 => (Nat.beq f.1 0 || Nat.beq f.1 2) && chkR mj cj.2.1 f.2
              | 1 => (Nat.beq f.1 1 || Nat.beq f.1 3) && Nat.beq cj.2.1.1.length f.2
              | 3 => Nat.beq j see && ((Nat.beq f.1 0 || Nat.beq f.1 2) && chkR mj cj.2.1 f.2)
              | _ => false) = true := by
            intro kd j hk hk2 hj
            rw [if_neg (by rw [Nat.beq_eq, hk]; exact hk2)] at hcq
            have hj2 := List.all_eq_true.mp hcq j hj
            simp only [Bool.and_eq_true, Nat.blt_eq] at hj2
            obtain ⟨j1, j2⟩ := hj2
            split at j2
            · cases j2
            · rename_i cj ecj
              split at j2
              · rename_i c9
                simp only [Bool.and_eq_true, Nat.beq_eq, Nat.blt_eq, decide_eq_true_eq] at j2
                obtain ⟨k1, k2, k4⟩ := j2
                split at k4
                · rename_i f ef
                  rw [Nat.beq_eq] at k4
                  refine .inl ⟨by omega, cj.1 - 9000, k2, ?_, ?_⟩
                  · unfold tCon
                    rw [ecj]
                    exact if_pos c9
                  · have hl5 := hL _ (tFlag_mem _ _ _ _ _ ef)
                    unfold chkL at hl5
                    split at hl5
                    · rename_i z
                      have z : f.1 = 4 := z
                      omega
                    · rw [hown h13]
                      exact hl5
                    · rename_i z
                      exact absurd k4 z
                · cases k4
              · rename_i c9n
                split at j2
                · cases j2
                · rename_i mj emj
                  split at j2
                  · cases j2
                  · rename_i f ef
                    rw [hk] at j2
                    exact .inr ⟨cj, mj, f, c9n, j1, ecj, emj, tFlag_mem _ _ _ _ _ ef, j2⟩
          have recv : ∀ {mj : tM} {cc : sC} {np : Nat}, mj ∈ MT → chkR mj cc np = true → ∃ (k : Nat) (gs : List sG) (ci : Nat) (fs : List gF) (T : u_T) (N : Nat), cc.1 = .inr (.inr (some k)) :: gs ∧ gs.length = np ∧ (gXG X)[k]? = some (.inl (ci, fs)) ∧ vwCl[ci]? = some (mj.1.cls, T, N) := by
            intro mj cc np hmj hr
            unfold chkR at hr
            split at hr
            · rename_i k gs ek
              simp only [Bool.and_eq_true, Nat.beq_eq] at hr
              obtain ⟨r1, r2⟩ := hr
              split at r2
              · rename_i ci fs eg
                rw [Nat.beq_eq] at r2
                rw [chkG_ok kg1] at eg
                have hcj := hM mj hmj
                unfold chkM at hcj
                simp only [Bool.and_eq_true] at hcj
                have h6 := hcj.2.2.2
                rw [← r2] at h6
                have hci : ∃ r, vwCl[ci]? = some r := by
                  have hall : kG.all (fun g => match g with | .inl (ci, _) => Nat.blt ci 13 | _ => true) = true := by decide +kernel
                  have := List.all_eq_true.mp hall _ (List.mem_of_getElem? eg)
                  simp only [Nat.blt_eq] at this
                  exact ⟨_, List.getElem?_eq_getElem (show ci < vwCl.length from this)⟩
                obtain ⟨⟨C, T, N⟩, hr⟩ := hci
                rw [hr] at h6
                have e6 : C = mj.1.cls := of_decide_eq_true h6
                subst e6
                exact ⟨k, gs, ci, fs, T, N, ek, r1, by rw [hG]; exact eg, hr⟩
              · cases r2
            · cases hr
          have h40 : ∀ {mj : tM}, mj ∈ MT → mj.2.2.1 ≤ 40 := fun {mj} hmj => by
            have hcj := hM mj hmj
            unfold chkM at hcj
            simp only [Bool.and_eq_true, Nat.ble_eq] at hcj
            exact hcj.2.2.1
          refine ⟨fun hk c' hc' => ?_, fun hk c' hc' => ?_, fun hk => ?_, fun hk c' hc' => ?_⟩
          · obtain ⟨j, hj, rfl⟩ := List.mem_map.mp hc'
            obtain ⟨z, -⟩ | ⟨cj, mj, f, j9, j1, j2, j3, j4, j5⟩ := row 0 j hk (by omega) hj
            · exact absurd z (by omega)
            simp only [Bool.and_eq_true, Bool.or_eq_true, Nat.beq_eq] at j5
            have hmj := List.mem_of_getElem? j3
            obtain ⟨k, gs, ci, fs, T, N, r1, r2, r3, r4⟩ := recv hmj j5.2
            have hq4 : (m.2.2.2.2.2.1, q.1, cj.1, f).2.2.2.1 ≠ 4 ∧ (m.2.2.2.2.2.1, q.1, cj.1, f).2.2.2.1 ≠ 5 := by
              show f.1 ≠ 4 ∧ f.1 ≠ 5
              omega
            have hgcw := chkL_gcw (hL _ j4) hq4 j3 (h40 hmj)
            have hw := chkL_words (hL _ j4) hq4 j3
            have hMj := ih j j1 cj mj j2 j3
            rw [← hl, ← hG] at hMj
            have et : tCon CT j = cj.2.1 := by unfold tCon; rw [j2]; exact if_neg j9
            simp only at hgcw hw
            rw [← hown h13] at hgcw hw
            rw [e1, et]
            rcases j5.1 with z | z
            · obtain ⟨w1, w2, w3⟩ := hw.1 z
              exact giv_virtual (d' := j + 5) hOK hOE hrm (by omega) hMj hgcw w1 w2 w3 r1 r3 r4 r2
            · obtain ⟨w1, w2, w3⟩ := hw.2.2.1 z
              exact giv_virtualN (d' := j + 5) hOK hOE hrm (by omega) hMj hgcw w1 w2 w3 r1 r3 r4 r2
          · obtain ⟨j, hj, rfl⟩ := List.mem_map.mp hc'
            obtain ⟨-, t, ht, et, hw⟩ | ⟨cj, mj, f, j9, j1, j2, j3, j4, j5⟩ := row 1 j hk (by omega) hj
            · show sGiv X m.2.2.2.2.2.2.1.P F 3748 (.invokestatic q.1) (tCon CT j)
              rw [et]
              exact giv_math hOK hrm ht hw
            simp only [Bool.and_eq_true, Bool.or_eq_true, Nat.beq_eq] at j5
            have hmj := List.mem_of_getElem? j3
            have hq4 : (m.2.2.2.2.2.1, q.1, cj.1, f).2.2.2.1 ≠ 4 ∧ (m.2.2.2.2.2.1, q.1, cj.1, f).2.2.2.1 ≠ 5 := by
              show f.1 ≠ 4 ∧ f.1 ≠ 5
              omega
            have hgcw := chkL_gcw (hL _ j4) hq4 j3 (h40 hmj)
            have hw := chkL_words (hL _ j4) hq4 j3
            have hMj := ih j j1 cj mj j2 j3
            rw [← hl, ← hG] at hMj
            have et : tCon CT j = cj.2.1 := by unfold tCon; rw [j2]; exact if_neg j9
            simp only at hgcw hw
            rw [← hown h13] at hgcw hw
            rw [e1, et]
            rcases j5.1 with z | z
            · obtain ⟨w1, w2⟩ := hw.2.1 z
              exact giv_static (d' := j + 5) hOK hOE hrm (by omega) hMj hgcw w1 w2 j5.2
            · obtain ⟨w1, w2⟩ := hw.2.2.2 z
              exact giv_staticN (d' := j + 5) hOK hOE hrm (by omega) hMj hgcw w1 w2 j5.2
          · rw [if_pos (by rw [Nat.beq_eq]; exact hk)] at hcq
            split at hcq
            · rename_i f ef
              rw [Nat.beq_eq] at hcq
              have hl4 := hL _ (tFlag_mem _ _ _ _ _ ef)
              unfold chkL at hl4
              split at hl4
              · have hw := of_decide_eq_true hl4
                simp only at hw
                rw [← hown h13] at hw
                have hEG := (chk_envG (X := X) (E := m.2.2.2.2.2.2.1) (by rw [hG, e3]; exact kg1) (by rw [hG]; exact kg2) (by rw [e1, e2]; exact kg3) (by rw [hG, e1]; exact kg4)).1
                exact g_copy (adV := adV) hOK hEG hrm (by omega) hw (by decide +kernel) (by decide +kernel) (by decide +kernel)
              · rename_i z
                have z : f.1 = 5 := z
                omega
              · rename_i hne _
                exact absurd hcq hne
            · cases hcq
          · obtain ⟨j, hj, rfl⟩ := List.mem_map.mp hc'
            obtain ⟨z, -⟩ | ⟨cj, mj, f, j9, j1, j2, j3, j4, j5⟩ := row 3 j hk (by omega) hj
            · exact absurd z (by omega)
            simp only [Bool.and_eq_true, Bool.or_eq_true, Nat.beq_eq] at j5
            obtain ⟨j6, j5⟩ := j5
            have hmj := List.mem_of_getElem? j3
            obtain ⟨k, gs, ci, fs, T, N, r1, r2, r3, r4⟩ := recv hmj j5.2
            have hq4 : (m.2.2.2.2.2.1, q.1, cj.1, f).2.2.2.1 ≠ 4 ∧ (m.2.2.2.2.2.1, q.1, cj.1, f).2.2.2.1 ≠ 5 := by
              show f.1 ≠ 4 ∧ f.1 ≠ 5
              omega
            have hgcw := chkL_gcw (hL _ j4) hq4 j3 (h40 hmj)
            have hw := chkL_words (hL _ j4) hq4 j3
            have hMj := hs cj mj (by rw [← j6]; exact j2) j3
            rw [← hl, ← hG] at hMj
            have et : tCon CT j = cj.2.1 := by unfold tCon; rw [j2]; exact if_neg j9
            simp only at hgcw hw
            rw [← hown h13] at hgcw hw
            rw [e1, et]
            rcases j5.1 with z | z
            · obtain ⟨w1, w2, w3⟩ := hw.1 z
              exact givQ_virtual (d' := see + 5) hOK hOE hrm (by omega) hMj hgcw w1 w2 w3 r1 r3 r4 r2
            · obtain ⟨w1, w2, w3⟩ := hw.2.2.1 z
              exact givQ_virtualN (d' := see + 5) hOK hOE hrm (by omega) hMj hgcw w1 w2 w3 r1 r3 r4 r2
        · have hk := chkK_ok (X := X) (C := m.2.2.2.2.2.2.2) (by rw [hI.2.2.2.2.2.1, hI.2.2.2.2.2.2.1]; exact m4)
          exact hk.1)
    have key2 : cMet l (i + 5) m.1 m.2.1 m.2.2.1 m.2.2.2.1 kG m.2.2.2.2.2.2.1.P F 3748 c.2.1 := key
    rw [e1] at key2
    exact key2
end TABS
