/-! THE ENGINE IS SOUND: forms, bounds, learnt facts -/
theorem sev_add (r : Nat → Int) : ∀ (n : Nat) (a b : List (Nat × Int)), sev r (sadd n a b) = sev r a + sev r b
  | 0, a, b => by
    show sev r (a ++ b) = _
    induction a with
    | nil => simp [sev]
    | cons q t ih => simp only [List.cons_append, sev, ih]; omega
  | n + 1, [], b => by simp [sadd, sev]
  | n + 1, p :: a, [] => by simp [sadd, sev]
  | n + 1, p :: a, q :: b => by
    simp only [sadd]
    by_cases h1 : Nat.blt p.1 q.1 = true
    · rw [if_pos h1]
      simp only [sev, sev_add r n]
      omega
    · rw [if_neg h1]
      by_cases h2 : Nat.blt q.1 p.1 = true
      · rw [if_pos h2]
        simp only [sev, sev_add r n]
        omega
      · rw [if_neg h2]
        have e : p.1 = q.1 := by
          simp only [Nat.blt_eq] at h1 h2
          omega
        by_cases h3 : p.2 + q.2 = 0
        · rw [if_pos h3]
          simp only [sev, sev_add r n]
          rw [← e]
          have : (p.2 + q.2) * r p.1 = 0 := by rw [h3]; omega
          rw [Int.add_mul] at this
          omega
        · rw [if_neg h3]
          simp only [sev, sev_add r n]
          rw [← e, Int.add_mul]
          omega
theorem sEv_add (r : Nat → Int) (a b : sL) : sEv r (sAdd a b) = sEv r a + sEv r b := by
  simp only [sEv, sAdd, sev_add]
  omega
theorem sev_mul (r : Nat → Int) (k : Int) : ∀ a : List (Nat × Int), sev r (a.map (fun q => (q.1, k * q.2))) = k * sev r a
  | [] => by simp [sev]
  | q :: t => by
    simp only [List.map_cons, sev, sev_mul r k t]
    rw [Int.mul_add, Int.mul_assoc]
theorem sEv_mul (r : Nat → Int) (k : Int) (a : sL) : sEv r (sMul k a) = k * sEv r a := by
  unfold sMul
  by_cases h : k = 0
  · rw [if_pos h, h]
    simp [sEv, sev]
  · rw [if_neg h]
    simp only [sEv, sev_mul]
    rw [Int.mul_add]
theorem sEv_sub (r : Nat → Int) (a b : sL) : sEv r (sSub a b) = sEv r a - sEv r b := by
  unfold sSub
  rw [sEv_add, sEv_mul]
  omega
theorem sEv_K (r : Nat → Int) (n : Int) : sEv r (sK n) = n := by simp [sEv, sK, sev]
theorem sEv_Y (r : Nat → Int) (k : Nat) : sEv r (sY k) = r k := by simp [sEv, sY, sev]
theorem tEq_ok : ∀ (a b : List (Nat × Int)), tEq a b = true → a = b
  | [], [], _ => rfl
  | [], _ :: _, h => by cases h
  | _ :: _, [], h => by cases h
  | p :: a, q :: b, h => by
    simp only [tEq, Bool.and_eq_true, decide_eq_true_eq, Nat.beq_eq] at h
    obtain ⟨h1, h2, h3⟩ := h
    rw [tEq_ok a b h3]
    congr 1
    exact Prod.ext h1 h2
theorem lEq_ok {a b : sL} (h : lEq a b = true) : a = b := by
  simp only [lEq, Bool.and_eq_true, decide_eq_true_eq] at h
  exact Prod.ext h.1 (tEq_ok _ _ h.2)
theorem oEq_ok {a b : Option Nat} (h : oEq a b = true) : a = b := by
  cases a <;> cases b <;> simp_all [oEq]
theorem aEq_ok {a b : sA} (h : aEq a b = true) : a = b := by
  rcases a with (a | a) | a <;> rcases b with (b | b) | b <;> simp only [aEq] at h <;> first | (cases h; done) | rw [lEq_ok h] | rw [oEq_ok h]
theorem asEq_ok : ∀ (a b : List sA), asEq a b = true → a = b
  | [], [], _ => rfl
  | [], _ :: _, h => by cases h
  | _ :: _, [], h => by cases h
  | p :: a, q :: b, h => by
    simp only [asEq, Bool.and_eq_true] at h
    rw [aEq_ok h.1, asEq_ok a b h.2]
theorem oLEq_ok {a b : Option sL} (h : oLEq a b = true) : a = b := by
  cases a <;> cases b <;> simp only [oLEq] at h <;> first | (cases h; done) | rfl | rw [lEq_ok h]
theorem mEq_ok : ∀ (a b : sMem), mEq a b = true → a = b
  | [], [], _ => rfl
  | [], _ :: _, h => by cases h
  | _ :: _, [], h => by cases h
  | p :: a, q :: b, h => by
    simp only [mEq, Bool.and_eq_true, Nat.beq_eq] at h
    obtain ⟨h1, h2, h3, h4⟩ := h
    rw [mEq_ok a b h4]
    congr 1
    exact Prod.ext h1 (Prod.ext h2 (oLEq_ok h3))
/-- what is known of the symbols -/
def sIvOK (r : Nat → Int) (iv : sSt) : Prop := ∀ q ∈ iv, q.2.1 ≤ r q.1 ∧ r q.1 ≤ q.2.2
def sLiOK (r : Nat → Int) (li : List sL) : Prop := ∀ l ∈ li, sEv r l ≤ 0
def sInit (P : sP) (r : Nat → Int) : Prop := ∀ p h, spAt P p = some h → h.1 ≤ r p ∧ r p ≤ h.2
theorem sfind_mem : ∀ (iv : sSt) (k : Nat) (h : Int × Int), sfind iv k = some h → (k, h) ∈ iv
  | [], _, _, e => by cases e
  | q :: t, k, h, e => by
    simp only [sfind] at e
    by_cases c : Nat.beq q.1 k = true
    · rw [if_pos c] at e
      cases e
      rw [Nat.beq_eq] at c
      subst c
      exact List.mem_cons_self
    · rw [if_neg c] at e
      exact List.mem_cons_of_mem _ (sfind_mem t k h e)
theorem sIv_ok {P : sP} {r : Nat → Int} {iv : sSt} (h1 : sIvOK r iv) (h2 : sInit P r) {k : Nat} {h : Int × Int} (e : sIv P iv k = some h) : h.1 ≤ r k ∧ r k ≤ h.2 := by
  unfold sIv at e
  cases c : sfind iv k with
  | some g =>
    rw [c] at e
    cases e
    exact h1 _ (sfind_mem iv k _ c)
  | none =>
    rw [c] at e
    exact h2 k h e
theorem mul_lo {c a x : Int} (hc : 0 ≤ c) (h : a ≤ x) : c * a ≤ c * x := Int.mul_le_mul_of_nonneg_left h hc
theorem mul_hi {c a x : Int} (hc : c ≤ 0) (h : a ≤ x) : c * x ≤ c * a := Int.mul_le_mul_of_nonpos_left hc h
theorem sbt_ok {P : sP} {r : Nat → Int} {iv : sSt} (h1 : sIvOK r iv) (h2 : sInit P r) : ∀ (t : List (Nat × Int)) (g : Int × Int), sbt P iv t = some g → g.1 ≤ sev r t ∧ sev r t ≤ g.2
  | [], g, e => by
    cases e
    simp [sev]
  | q :: t, g, e => by
    simp only [sbt] at e
    cases ci : sIv P iv q.1 with
    | none => rw [ci] at e; cases e
    | some h =>
      rw [ci] at e
      cases ct : sbt P iv t with
      | none => rw [ct] at e; cases e
      | some g' =>
        rw [ct] at e
        obtain ⟨a1, a2⟩ := sIv_ok h1 h2 ci
        obtain ⟨b1, b2⟩ := sbt_ok h1 h2 t g' ct
        simp only [sev]
        by_cases hc : 0 ≤ q.2
        · simp only [hc, if_true, Option.some.injEq] at e
          subst e
          have c1 := mul_lo hc a1
          have c2 := mul_lo hc a2
          constructor <;> simp only <;> omega
        · simp only [hc, if_false, Option.some.injEq] at e
          subst e
          have c1 := mul_hi (Int.le_of_lt (Int.not_le.mp hc)) a1
          have c2 := mul_hi (Int.le_of_lt (Int.not_le.mp hc)) a2
          constructor <;> simp only <;> omega
theorem sB_ok {P : sP} {r : Nat → Int} {iv : sSt} (h1 : sIvOK r iv) (h2 : sInit P r) {l : sL} {g : Int × Int} (e : sB P iv l = some g) : g.1 ≤ sEv r l ∧ sEv r l ≤ g.2 := by
  unfold sB at e
  cases c : sbt P iv l.2 with
  | none => rw [c] at e; cases e
  | some g' =>
    rw [c] at e
    cases e
    obtain ⟨a1, a2⟩ := sbt_ok h1 h2 _ _ c
    simp only [sEv]
    omega
theorem sRanged_ok {P : sP} {r : Nat → Int} {S : sS} (h1 : sIvOK r S.iv) (h2 : sInit P r) {l : sL} {lo hi : Int} (e : sRanged P S l lo hi = true) : lo ≤ sEv r l ∧ sEv r l ≤ hi := by
  unfold sRanged at e
  cases c : sB P S.iv l with
  | none => rw [c] at e; cases e
  | some g =>
    rw [c] at e
    simp only [Bool.and_eq_true, decide_eq_true_eq] at e
    have := sB_ok h1 h2 c
    omega
theorem sLq_ok {P : sP} {r : Nat → Int} {iv : sSt} (h1 : sIvOK r iv) (h2 : sInit P r) {l : sL} (e : sLq P iv l = true) : sEv r l ≤ 0 := by
  unfold sLq at e
  cases c : sB P iv l with
  | none => rw [c] at e; cases e
  | some g =>
    rw [c] at e
    simp only [decide_eq_true_eq] at e
    have := sB_ok h1 h2 c
    omega
theorem sFac_pos (l m : sL) : 0 ≤ sFac l m := by
  unfold sFac
  split
  · omega
  · split
    · omega
    · omega
theorem mul_np {f x : Int} (hf : 0 ≤ f) (hx : x ≤ 0) : f * x ≤ 0 := by
  have := mul_lo hf hx
  simpa using this
theorem sEnd_ok {r : Nat → Int} : ∀ (li : List sL) (k : Nat) (c : Int) (m : sL), sLiOK r li → sEnd k c li = some m → sEv r m ≤ 0
  | [], _, _, _, _, e => by cases e
  | m0 :: t, k, c, m, h, e => by
    have ht : sLiOK r t := fun l hl => h l (List.mem_cons_of_mem _ hl)
    simp only [sEnd] at e
    cases cl : sLastT m0.2 with
    | none => rw [cl] at e; exact sEnd_ok t k c m ht e
    | some q =>
      rw [cl] at e
      simp only at e
      by_cases c1 : (Nat.beq q.1 k && (decide (q.2 ≠ 0) && (decide (c % q.2 = 0) && decide (1 ≤ c / q.2)))) = true
      · rw [if_pos c1] at e
        cases e
        simp only [Bool.and_eq_true, decide_eq_true_eq] at c1
        rw [sEv_mul]
        exact mul_np (by omega) (h m0 List.mem_cons_self)
      · rw [if_neg c1] at e
        exact sEnd_ok t k c m ht e
theorem sGreedy_ok {P : sP} {r : Nat → Int} {S : sS} (h1 : sIvOK r S.iv) (h2 : sInit P r) (h3 : sLiOK r S.li) : ∀ (n : Nat) (l : sL), sGreedy P S n l = true → sEv r l ≤ 0
  | 0, _, e => by cases e
  | n + 1, l, e => by
    simp only [sGreedy, Bool.or_eq_true] at e
    rcases e with e | e
    · exact sLq_ok h1 h2 e
    · cases cl : sLastT l.2 with
      | none => rw [cl] at e; cases e
      | some q =>
        rw [cl] at e
        simp only at e
        cases cm : sEnd q.1 q.2 S.li with
        | none => rw [cm] at e; cases e
        | some m =>
          rw [cm] at e
          have a1 := sGreedy_ok h1 h2 h3 n _ e
          have a2 := sEnd_ok _ _ _ _ h3 cm
          rw [sEv_sub] at a1
          omega
theorem sLeq_ok {P : sP} {r : Nat → Int} {S : sS} (h1 : sIvOK r S.iv) (h2 : sInit P r) (h3 : sLiOK r S.li) {l : sL} (e : sLeq P S l = true) : sEv r l ≤ 0 := by
  unfold sLeq at e
  simp only [Bool.or_eq_true, List.any_eq_true] at e
  rcases e with e | ⟨m, hm, e⟩ | e | ⟨m, hm, m2, hm2, e⟩
  · exact sLq_ok h1 h2 e
  · have a := sLq_ok h1 h2 e
    rw [sEv_sub, sEv_mul] at a
    have := mul_np (sFac_pos l m) (h3 m hm)
    omega
  · exact sGreedy_ok h1 h2 h3 40 l e
  · have a := sLq_ok h1 h2 e
    rw [sEv_sub, sEv_mul, sEv_sub, sEv_mul] at a
    have b1 := mul_np (sFac_pos l m) (h3 m hm)
    have b2 := mul_np (sFac_pos (sSub l (sMul (sFac l m) m)) m2) (h3 m2 hm2)
    omega
theorem sHas_ok {r : Nat → Int} {li : List sL} (h : sLiOK r li) {l : sL} (e : sHas li l = true) : sEv r l ≤ 0 := by
  unfold sHas at e
  simp only [List.any_eq_true, Bool.and_eq_true, decide_eq_true_eq] at e
  obtain ⟨m, hm, h1, h2⟩ := e
  have a := h m hm
  have b := tEq_ok _ _ h1
  simp only [sEv] at a ⊢
  rw [← b]
  omega
theorem sSetIv_ok {r : Nat → Int} : ∀ (iv : sSt) (k : Nat) (lo hi : Int), sIvOK r iv → lo ≤ r k → r k ≤ hi → sIvOK r (sSetIv iv k lo hi)
  | [], k, lo, hi, _, h1, h2 => fun q hq => by
    simp only [sSetIv, List.mem_cons, List.not_mem_nil, or_false] at hq
    subst hq
    exact ⟨h1, h2⟩
  | q0 :: t, k, lo, hi, h, h1, h2 => by
    simp only [sSetIv]
    split
    · intro q hq
      rcases List.mem_cons.mp hq with rfl | hq
      · exact ⟨h1, h2⟩
      · exact h q (List.mem_cons_of_mem _ hq)
    · intro q hq
      rcases List.mem_cons.mp hq with rfl | hq
      · exact h q List.mem_cons_self
      · exact sSetIv_ok t k lo hi (fun q hq => h q (List.mem_cons_of_mem _ hq)) h1 h2 q hq
/-- a cut keeps what is so: c * r k + lo ≤ 0 -/
theorem sCut_ok {P : sP} {r : Nat → Int} {iv : sSt} (h1 : sIvOK r iv) (h2 : sInit P r) {k : Nat} {c lo : Int} (h : c * r k + lo ≤ 0) : ∃ iv', sCut P iv k c lo = some iv' ∧ sIvOK r iv' := by
  unfold sCut
  cases ci : sIv P iv k with
  | none => exact ⟨iv, rfl, h1⟩
  | some g =>
    obtain ⟨a1, a2⟩ := sIv_ok h1 h2 ci
    simp only
    by_cases hc : 0 < c
    · rw [if_pos hc]
      have hk : r k ≤ (-lo) / c := by
        rw [Int.le_ediv_iff_mul_le hc]
        rw [Int.mul_comm]
        omega
      by_cases b1 : g.2 ≤ (-lo) / c
      · rw [if_pos b1]
        exact ⟨iv, rfl, h1⟩
      · rw [if_neg b1, if_pos (by omega)]
        exact ⟨_, rfl, sSetIv_ok iv k _ _ h1 a1 hk⟩
    · rw [if_neg hc]
      by_cases hc2 : c < 0
      · rw [if_pos hc2]
        have hk : -((-lo) / (-c)) ≤ r k := by
          have : -(r k) ≤ (-lo) / (-c) := by
            rw [Int.le_ediv_iff_mul_le (by omega)]
            rw [Int.neg_mul_neg, Int.mul_comm]
            omega
          omega
        by_cases b1 : -((-lo) / (-c)) ≤ g.1
        · rw [if_pos b1]
          exact ⟨iv, rfl, h1⟩
        · rw [if_neg b1, if_pos (by omega)]
          exact ⟨_, rfl, sSetIv_ok iv k _ _ h1 hk a2⟩
      · rw [if_neg hc2]
        exact ⟨iv, rfl, h1⟩
theorem sbt_but {P : sP} {r : Nat → Int} {iv : sSt} (h1 : sIvOK r iv) (h2 : sInit P r) : ∀ (t : List (Nat × Int)) (g : Int × Int), sbt P iv t = some g → ∀ (q : Nat × Int) (h : Int × Int), q ∈ t → sIv P iv q.1 = some h → g.1 - (if 0 ≤ q.2 then q.2 * h.1 else q.2 * h.2) ≤ sev r t - q.2 * r q.1
  | [], _, _, _, _, hq, _ => absurd hq List.not_mem_nil
  | q0 :: t, g, e, q, h, hq, hi => by
    simp only [sbt] at e
    cases ci : sIv P iv q0.1 with
    | none => rw [ci] at e; cases e
    | some h0 =>
      rw [ci] at e
      cases ct : sbt P iv t with
      | none => rw [ct] at e; cases e
      | some g' =>
        rw [ct] at e
        obtain ⟨a1, a2⟩ := sIv_ok h1 h2 ci
        obtain ⟨b1, b2⟩ := sbt_ok h1 h2 t g' ct
        have e1 : g.1 = (if 0 ≤ q0.2 then q0.2 * h0.1 else q0.2 * h0.2) + g'.1 := by
          by_cases hc : 0 ≤ q0.2
          · simp only [hc, if_true, Option.some.injEq] at e ⊢
            rw [← e]
          · simp only [hc, if_false, Option.some.injEq] at e ⊢
            rw [← e]
        have e2 : (if 0 ≤ q0.2 then q0.2 * h0.1 else q0.2 * h0.2) ≤ q0.2 * r q0.1 := by
          by_cases hc : 0 ≤ q0.2
          · simp only [hc, if_true]
            exact mul_lo hc a1
          · simp only [hc, if_false]
            exact mul_hi (Int.le_of_lt (Int.not_le.mp hc)) a2
        simp only [sev]
        rcases List.mem_cons.mp hq with rfl | hq
        · cases ci.symm.trans hi
          omega
        · have := sbt_but h1 h2 t g' ct q h hq hi
          omega
theorem sCuts_ok {P : sP} {r : Nat → Int} {iv0 : sSt} (h1 : sIvOK r iv0) (h2 : sInit P r) {l : sL} {g : Int × Int} (e : sB P iv0 l = some g) (h : sEv r l ≤ 0) : ∀ (t : List (Nat × Int)) (iv : sSt), (∀ q ∈ t, q ∈ l.2) → sIvOK r iv → ∃ iv', sCuts P iv0 g.1 t iv = some iv' ∧ sIvOK r iv'
  | [], iv, _, hiv => ⟨iv, rfl, hiv⟩
  | q :: t, iv, hm, hiv => by
    have ht : ∀ q ∈ t, q ∈ l.2 := fun q hq => hm q (List.mem_cons_of_mem _ hq)
    simp only [sCuts]
    cases ci : sIv P iv0 q.1 with
    | none => exact sCuts_ok h1 h2 e h t iv ht hiv
    | some hh =>
      simp only
      unfold sB at e
      cases ct : sbt P iv0 l.2 with
      | none => rw [ct] at e; cases e
      | some gt =>
        have e' := e
        rw [ct] at e'
        simp only [Option.some.injEq] at e'
        have hb := sbt_but h1 h2 l.2 gt ct q hh (hm q List.mem_cons_self) ci
        have hc : q.2 * r q.1 + (g.1 - (if 0 ≤ q.2 then q.2 * hh.1 else q.2 * hh.2)) ≤ 0 := by
          have e3 : g.1 = l.1 + gt.1 := by rw [← e']
          simp only [sEv] at h
          omega
        obtain ⟨iv1, e1, k1⟩ := sCut_ok hiv h2 hc
        rw [e1]
        exact sCuts_ok h1 h2 (by unfold sB; rw [ct, ← e']) h t iv1 ht k1
theorem sProp_ok {P : sP} {r : Nat → Int} (h2 : sInit P r) : ∀ (li : List sL) (iv : sSt), sLiOK r li → sIvOK r iv → ∃ iv', sProp P li iv = some iv' ∧ sIvOK r iv'
  | [], iv, _, h => ⟨iv, rfl, h⟩
  | l :: t, iv, hl, h => by
    have ht : sLiOK r t := fun m hm => hl m (List.mem_cons_of_mem _ hm)
    simp only [sProp]
    cases c : sB P iv l with
    | none => exact sProp_ok h2 t iv ht h
    | some g =>
      obtain ⟨iv', e1, h'⟩ := sCuts_ok h h2 c (hl l List.mem_cons_self) l.2 iv (fun _ hq => hq) h
      simp only
      rw [e1]
      exact sProp_ok h2 t iv' ht h'
/-- what is known of the symbols of a state -/
def sFx (P : sP) (r : Nat → Int) (S : sS) : Prop := sIvOK r S.iv ∧ sLiOK r S.li ∧ sInit P r
/-- the same state but for what is known -/
def sEqv (S T : sS) : Prop := T.pc = S.pc ∧ T.lv = S.lv ∧ T.st = S.st ∧ T.me = S.me ∧ T.nx = S.nx ∧ T.mm = S.mm
theorem sEqv.rf (S : sS) : sEqv S S := ⟨rfl, rfl, rfl, rfl, rfl, rfl⟩
theorem sEqv.tr {S T U : sS} (h1 : sEqv S T) (h2 : sEqv T U) : sEqv S U := ⟨h2.1.trans h1.1, h2.2.1.trans h1.2.1, h2.2.2.1.trans h1.2.2.1, h2.2.2.2.1.trans h1.2.2.2.1, h2.2.2.2.2.1.trans h1.2.2.2.2.1, h2.2.2.2.2.2.trans h1.2.2.2.2.2⟩
theorem sLe_ok {P : sP} {r : Nat → Int} {S : sS} (hF : sFx P r S) {l : sL} (h : sEv r l ≤ 0) : ∃ T, sLe P S l = some T ∧ sFx P r T ∧ sEqv S T := by
  obtain ⟨h1, h3, h2⟩ := hF
  unfold sLe
  cases c : sB P S.iv l with
  | none =>
    refine ⟨_, rfl, ⟨h1, fun m hm => ?_, h2⟩, ⟨rfl, rfl, rfl, rfl, rfl, rfl⟩⟩
    rcases List.mem_cons.mp hm with rfl | hm
    · exact h
    · exact h3 m hm
  | some g =>
    obtain ⟨b1, b2⟩ := sB_ok h1 h2 c
    simp only
    by_cases c1 : g.2 ≤ 0
    · rw [if_pos c1]
      exact ⟨S, rfl, ⟨h1, h3, h2⟩, sEqv.rf S⟩
    · rw [if_neg c1, if_neg (by omega : ¬ 0 < g.1)]
      have c2 : ¬ sHas S.li (sAdd (sMul (-1) l) (sK 1)) = true := by
        intro q
        have := sHas_ok h3 q
        rw [sEv_add, sEv_mul, sEv_K] at this
        omega
      rw [if_neg c2]
      obtain ⟨iv', e1, k1⟩ := sCuts_ok h1 h2 c h l.2 S.iv (fun _ hq => hq) h1
      rw [e1]
      refine ⟨_, rfl, ⟨k1, ?_, h2⟩, ⟨rfl, rfl, rfl, rfl, rfl, rfl⟩⟩
      intro m hm
      simp only [sS.li] at hm
      split at hm
      · rcases List.mem_cons.mp hm with rfl | hm
        · exact h
        · exact h3 m hm
      · exact h3 m hm
theorem sEq_ok {P : sP} {r : Nat → Int} {S : sS} (hF : sFx P r S) {l : sL} (h : sEv r l = 0) : ∃ T, sEq P S l = some T ∧ sFx P r T ∧ sEqv S T := by
  obtain ⟨T, e1, k1, q1⟩ := sLe_ok hF (l := l) (by omega)
  obtain ⟨U, e2, k2, q2⟩ := sLe_ok k1 (l := sMul (-1) l) (by rw [sEv_mul]; omega)
  refine ⟨U, ?_, k2, q1.tr q2⟩
  unfold sEq
  rw [e1]
  exact e2
theorem sNe_ok {P : sP} {r : Nat → Int} {S : sS} (hF : sFx P r S) {l : sL} (h : sEv r l ≠ 0) : ∃ T, sNe P S l = some T ∧ sFx P r T ∧ sEqv S T := by
  unfold sNe
  cases c : sB P S.iv l with
  | none => exact ⟨S, rfl, hF, sEqv.rf S⟩
  | some g =>
    obtain ⟨b1, b2⟩ := sB_ok hF.1 hF.2.2 c
    simp only
    by_cases c1 : g.1 = 0
    · rw [if_pos c1]
      exact sLe_ok hF (by rw [sEv_add, sEv_mul, sEv_K]; omega)
    · rw [if_neg c1]
      by_cases c2 : g.2 = 0
      · rw [if_pos c2]
        exact sLe_ok hF (by rw [sEv_add, sEv_K]; omega)
      · rw [if_neg c2]
        exact ⟨S, rfl, hF, sEqv.rf S⟩
/-- what a condition says of a form and 0 -/
def icond : Jvm.ClassFile.Cond → Int → Prop
  | .eq, x => x = 0
  | .ne, x => x ≠ 0
  | .lt, x => x < 0
  | .ge, x => 0 ≤ x
  | .gt, x => 0 < x
  | .le, x => x ≤ 0
theorem icond_not {c : Jvm.ClassFile.Cond} {x : Int} (h : ¬ icond c x) : icond (sNot c) x := by
  cases c <;> simp only [icond, sNot] at h ⊢ <;> omega
theorem sCond_ok {P : sP} {r : Nat → Int} {S : sS} (hF : sFx P r S) {d : sL} {c : Jvm.ClassFile.Cond} (h : icond c (sEv r d)) : ∃ T, sCond P S d c = some T ∧ sFx P r T ∧ sEqv S T := by
  cases c with
  | eq => exact sEq_ok hF h
  | ne => exact sNe_ok hF h
  | lt => exact sLe_ok hF (by rw [sEv_add, sEv_K]; have : sEv r d < 0 := h; omega)
  | ge => exact sLe_ok hF (by rw [sEv_mul]; have : 0 ≤ sEv r d := h; omega)
  | gt => exact sLe_ok hF (by rw [sEv_add, sEv_mul, sEv_K]; have : 0 < sEv r d := h; omega)
  | le => exact sLe_ok hF h
