/-! p1: every case of the law on two new objects -/
def fullI (g : sG) : Bool := match g with
  | .inl h => decide (h.1 ≤ -2147483648) && decide (2147483647 ≤ h.2)
  | _ => false
def fullL (g : sG) : Bool := match g with
  | .inr (.inl h) => decide (h.1 ≤ i64l) && decide (i64h ≤ h.2)
  | _ => false
def fullG (n : Nat) (gs : List sG) : Bool := if Nat.beq n 100 then (match gs with
  | [a, b, c] => fullI a && (fullI b && fullL c)
  | _ => false) else Nat.beq gs.length n && gs.all fullI
theorem i32_rng (z : Int32) : -2147483648 ≤ z.toInt ∧ z.toInt ≤ 2147483647 := by
  have h1 : Int32.minValue.toInt ≤ z.toInt := z.minValue_le_toInt
  have h2 : z.toInt ≤ Int32.maxValue.toInt := z.toInt_le
  have h3 : Int32.minValue.toInt = -2147483648 := by decide
  have h4 : Int32.maxValue.toInt = 2147483647 := by decide
  omega
theorem fullI_ok {g : sG} (h : fullI g = true) (z : Int32) {gs : List sG} {as : List gV} (hr : gArgOK gs as) : gArgOK (g :: gs) (gI z :: as) := by
  have := i32_rng z
  rcases g with g | g | g
  · simp only [fullI, Bool.and_eq_true, decide_eq_true_eq] at h
    exact ⟨⟨by omega, by omega⟩, hr⟩
  · cases h
  · cases h
theorem fullL_ok {g : sG} (h : fullL g = true) (z : Int64) {gs : List sG} {as : List gV} (hr : gArgOK gs as) : gArgOK (g :: gs) (gL z :: as) := by
  have := i64_range z
  rcases g with g | g | g
  · cases h
  · simp only [fullL, Bool.and_eq_true, decide_eq_true_eq] at h
    exact ⟨⟨by omega, by omega⟩, hr⟩
  · cases h
theorem fulls_ok : ∀ (gs : List sG) (l : List Int32), gs.all fullI = true → gs.length = l.length → gArgOK gs (l.map gI)
  | [], [], _, _ => trivial
  | [], _ :: _, _, h => by simp at h
  | _ :: _, [], _, h => by simp at h
  | g :: gs, z :: l, h, hl => by
    simp only [List.all_cons, Bool.and_eq_true] at h
    exact fullI_ok h.1 z (fulls_ok gs l h.2 (by simpa using hl))
theorem fullG_ok {n : Nat} {gs : List sG} (h : fullG n gs = true) (a : Nat → Int32) : gArgOK gs (aOf n a) := by
  unfold fullG at h
  unfold aOf
  split at h
  · rename_i c
    rw [Nat.beq_eq] at c
    rw [if_pos c]
    split at h
    · simp only [Bool.and_eq_true] at h
      exact fullI_ok h.1 _ (fullI_ok h.2.1 _ (fullL_ok h.2.2 _ trivial))
    · cases h
  · rename_i c
    rw [if_neg (fun z => c (by rw [z]; rfl))]
    simp only [Bool.and_eq_true, Nat.beq_eq] at h
    have := fulls_ok gs ((List.range' 1 n).map a) h.2 (by rw [h.1, List.length_map, List.length_range'])
    rw [List.map_map] at this
    exact this
def argT (CT : List (List tC)) (j : Nat) : List sG := match bAt CT j with
  | some c => c.2.1.1.tail
  | none => []
def chain (CT : List (List tC)) : Int → List (Nat × Nat) → Bool
  | _, [] => false
  | lo, p :: r => match argT CT p.1, argT CT p.2 with
    | [.inl h], [.inl h'] => decide (h.1 ≤ lo) && (decide (h'.1 ≤ lo) && (decide (h.2 = h'.2) && (decide (2147483647 ≤ h.2) || chain CT (h.2 + 1) r)))
    | _, _ => false
theorem chain_ok {CT : List (List tC)} (z : Int32) : ∀ (ps : List (Nat × Nat)) (lo : Int), chain CT lo ps = true → lo ≤ z.toInt → ∃ p ∈ ps, gArgOK (argT CT p.1) [gI z] ∧ gArgOK (argT CT p.2) [gI z]
  | [], _, h, _ => by cases h
  | p :: r, lo, h, hz => by
    simp only [chain] at h
    split at h
    · rename_i g g' e e'
      simp only [Bool.and_eq_true, Bool.or_eq_true, decide_eq_true_eq] at h
      obtain ⟨h1, h2, h3, h4⟩ := h
      have := i32_rng z
      by_cases c : z.toInt ≤ g.2
      · refine ⟨p, List.mem_cons_self, ?_, ?_⟩
        · rw [e]
          exact ⟨⟨by omega, c⟩, trivial⟩
        · rw [e']
          exact ⟨⟨by omega, by omega⟩, trivial⟩
      · rcases h4 with h4 | h4
        · omega
        · obtain ⟨p', q1, q2⟩ := chain_ok z r _ h4 (by omega)
          exact ⟨p', List.mem_cons_of_mem _ q1, q2⟩
    · cases h
def chkCase (MT : List tM) (CT : List (List tC)) (mu : gM) (q : hQ) (ps : List (Nat × Nat)) : Bool := ps.all (fun p => Nat.blt p.1 1200 && (Nat.blt p.2 1200 && chkTop MT CT mu q p)) && (if Nat.beq q.2.1 1 then chain CT (-2147483648) ps else (match ps with
  | [p] => fullG q.2.1 (argT CT p.1) && fullG q.2.1 (argT CT p.2)
  | _ => false))
theorem head_arg {CT : List (List tC)} {c : tC} {j k0 : Nat} {as : List gV} (e : bAt CT j = some c) (hh : chkHead k0 c.2.1 = true) (ha : gArgOK (argT CT j) as) : gArgOK c.2.1.1 (gR k0 :: as) := by
  unfold argT at ha
  rw [e] at ha
  dsimp only at ha
  unfold chkHead at hh
  split at hh
  · rename_i k gs ek
    rw [Nat.beq_eq] at hh
    subst hh
    rw [ek] at ha ⊢
    exact ⟨rfl, ha⟩
  · cases hh
theorem top_heads {MT : List tM} {CT : List (List tC)} {mu : gM} {q : hQ} {p : Nat × Nat} (h : chkTop MT CT mu q p = true) : (∀ c, bAt CT p.1 = some c → chkHead 0 c.2.1 = true) ∧ (∀ c, bAt CT p.2 = some c → chkHead 166 c.2.1 = true) := by
  unfold chkTop at h
  split at h
  · rename_i cx cm ex em
    split at h
    · simp only [Bool.and_eq_true] at h
      exact ⟨fun c e => by cases ex.symm.trans e; exact h.1, fun c e => by cases em.symm.trans e; exact h.2.1⟩
    · cases h
  · cases h
theorem case_all {X : gX} {adV : Nat → Nat} {F : Nat → Int → gM → Int} {MT : List tM} {CT : List (List tC)} {mu : gM} {q : hQ} {ps : List (Nat × Nat)} (hOK : gOK X) (hOE : gOE X adV) (hrm : gXR X = room_1) (ho : gXo X = "TwinVoiceLaw") (hG : gXG X = kG) (hM : ∀ m ∈ MT, chkM m = true)
    (hT : ∀ (i : Nat) (c : tC) (m : tM), bAt CT i = some c → MT[c.1]? = some m → cMet (gXl X) (i + 5) m.1 m.2.1 m.2.2.1 m.2.2.2.1 kG kP F 3748 c.2.1) (h : chkCase MT CT mu q ps = true) (hp : gProf kP mu) (a : Nat → Int32) : hCase X q (aOf q.2.1 a) mu (fun _ => True) := by
  simp only [chkCase, Bool.and_eq_true] at h
  obtain ⟨h1, h2⟩ := h
  have go : ∀ p ∈ ps, gArgOK (argT CT p.1) (aOf q.2.1 a) → gArgOK (argT CT p.2) (aOf q.2.1 a) → hCase X q (aOf q.2.1 a) mu (fun _ => True) := fun p hpm hx hm => by
    have w := List.all_eq_true.mp h1 p hpm
    simp only [Bool.and_eq_true, Nat.blt_eq] at w
    obtain ⟨w1, w2, w3⟩ := w
    obtain ⟨t1, t2⟩ := top_heads w3
    exact top_case hOK hOE hrm ho hG kg1 kPM hM hT ⟨w1, w2⟩ w3 hp (fun c e => head_arg e (t1 c e) hx) (fun c e => head_arg e (t2 c e) hm)
  split at h2
  · rename_i c
    rw [Nat.beq_eq] at c
    have e : aOf q.2.1 a = [gI (a 1)] := by rw [c]; rfl
    obtain ⟨p, hpm, hx, hm⟩ := chain_ok (a 1) ps _ h2 (i32_rng (a 1)).1
    rw [← e] at hx hm
    exact go p hpm hx hm
  · split at h2
    · rename_i p
      simp only [Bool.and_eq_true] at h2
      exact go p List.mem_cons_self (fullG_ok h2.1 a) (fullG_ok h2.2 a)
    · cases h2
theorem hCase.mono {X : gX} {q : hQ} {as : List gV} {mu : gM} {I J : gM → Prop} (h : hCase X q as mu I) (hij : ∀ m, I m → J m) : hCase X q as mu J := by
  obtain ⟨Px, h1, h2⟩ := h
  refine ⟨Px, h1, fun r mu1 hp => ?_⟩
  obtain ⟨zx, e1, Pm, h3, h4⟩ := h2 r mu1 hp
  refine ⟨zx, e1, Pm, h3, fun r2 mu2 hp2 => ?_⟩
  obtain ⟨zm, e2, h5, h6⟩ := h4 r2 mu2 hp2
  exact ⟨zm, e2, h5, hij _ h6⟩
def zipAll (MT : List tM) (CT : List (List tC)) (mu : gM) : List hQ → List (List (Nat × Nat)) → Bool
  | [], _ => true
  | _ :: _, [] => false
  | q :: r, ps :: s => chkCase MT CT mu q ps && zipAll MT CT mu r s
theorem zipAll_ok {MT : List tM} {CT : List (List tC)} {mu : gM} : ∀ (Q : List hQ) (T : List (List (Nat × Nat))), zipAll MT CT mu Q T = true → ∀ (k : Nat) (q : hQ), Q[k]? = some q → ∃ ps, chkCase MT CT mu q ps = true
  | [], _, _, k, q, e => by simp at e
  | _ :: _, [], h, _, _, _ => by cases h
  | q0 :: r, ps :: s, h, k, q, e => by
    simp only [zipAll, Bool.and_eq_true] at h
    cases k with
    | zero => cases e; exact ⟨ps, h.1⟩
    | succ k => exact zipAll_ok r s h.2 k q e
theorem zip_cons {MT : List tM} {CT : List (List tC)} {mu : gM} {q : hQ} {ps : List (Nat × Nat)} {r : List hQ} {s : List (List (Nat × Nat))} (h : chkCase MT CT mu q ps = true) (hr : zipAll MT CT mu r s = true) : zipAll MT CT mu (q :: r) (ps :: s) = true := by
  simp only [zipAll, h, hr, Bool.and_self]
set_option maxRecDepth 100000
theorem kMu0_ok : gProf kP kMu0 := by
  have hc : kQ.all (fun q => decide (q.2.2.1 ≤ 0) && (decide (0 ≤ q.2.2.2) && (kNz.all (fun p => !(Nat.ble q.1 p && Nat.blt p q.2.1) || (decide (q.2.2.1 ≤ -1) && decide (-1 ≤ q.2.2.2)))))) = true := by decide +kernel
  intro p g e
  obtain ⟨q, q1, q2, q3, q4⟩ := chkP_ok kg3 p g e
  have w := List.all_eq_true.mp hc q q1
  simp only [Bool.and_eq_true, decide_eq_true_eq, List.all_eq_true, Bool.or_eq_true, Bool.not_eq_true'] at w
  obtain ⟨w1, w2, w3⟩ := w
  rw [q4] at w1 w2 w3
  by_cases c : kNz.any (Nat.beq p) = true
  · have e1 : kMu0 p = -1 := if_pos c
    obtain ⟨p', p1, p2⟩ := List.any_eq_true.mp c
    rw [Nat.beq_eq] at p2
    subst p2
    rcases w3 p p1 with w3 | w3
    · exfalso
      have : (Nat.ble q.1 p && Nat.blt p q.2.1) = true := by
        simp only [Bool.and_eq_true, Nat.ble_eq, Nat.blt_eq]
        exact ⟨q2, q3⟩
      rw [this] at w3
      cases w3
    · rw [e1]
      exact w3
  · have e1 : kMu0 p = 0 := if_neg c
    rw [e1]
    exact ⟨w1, w2⟩
