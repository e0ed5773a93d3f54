/-! THE TABLES, checked: what a frame's environment wants -/
def chkG (G : List gC) (B : List (List gC)) : Bool := Nat.ble G.length (16 * B.length) && (List.range (16 * B.length)).all (fun k => decide (gAt B k = G[k]?))
theorem chkG_ok {G : List gC} {B : List (List gC)} (h : chkG G B = true) (k : Nat) : gAt B k = G[k]? := by
  unfold chkG at h
  simp only [Bool.and_eq_true, Nat.ble_eq, List.all_eq_true, List.mem_range, decide_eq_true_eq] at h
  by_cases c : k < 16 * B.length
  · exact h.2 k c
  · rw [List.getElem?_eq_none (by omega)]
    unfold gAt
    rw [List.getElem?_eq_none (by omega)]
def chkP (P : sP) (Q : sP1) : Bool := P.all (fun b => b.2.all (fun q => Q.any (fun q' => decide (q = q'))))
theorem spAt1_mem : ∀ (Q : sP1) (p : Nat) (h : Int × Int), spAt1 Q p = some h → ∃ q ∈ Q, q.1 ≤ p ∧ p < q.2.1 ∧ q.2.2 = h
  | [], _, _, e => by cases e
  | q :: t, p, h, e => by
    simp only [spAt1] at e
    split at e
    · rename_i c
      simp only [Bool.and_eq_true, Nat.ble_eq, Nat.blt_eq] at c
      cases e
      exact ⟨q, List.mem_cons_self, c.1, c.2, rfl⟩
    · obtain ⟨q', h1, h2⟩ := spAt1_mem t p h e
      exact ⟨q', List.mem_cons_of_mem _ h1, h2⟩
theorem spAt_mem : ∀ (P : sP) (p : Nat) (h : Int × Int), spAt P p = some h → ∃ b ∈ P, ∃ q ∈ b.2, q.1 ≤ p ∧ p < q.2.1 ∧ q.2.2 = h
  | [], _, _, e => by cases e
  | b :: t, p, h, e => by
    simp only [spAt] at e
    split at e
    · exact ⟨b, List.mem_cons_self, spAt1_mem _ _ _ e⟩
    · obtain ⟨b', h1, h2⟩ := spAt_mem t p h e
      exact ⟨b', List.mem_cons_of_mem _ h1, h2⟩
theorem chkP_ok {P : sP} {Q : sP1} (hc : chkP P Q = true) (p : Nat) (h : Int × Int) (e : spAt P p = some h) : ∃ q ∈ Q, q.1 ≤ p ∧ p < q.2.1 ∧ q.2.2 = h := by
  obtain ⟨b, b1, q, q1, q2⟩ := spAt_mem P p h e
  have c := List.all_eq_true.mp (List.all_eq_true.mp hc b b1) q q1
  obtain ⟨q', k1, k2⟩ := List.any_eq_true.mp c
  rw [decide_eq_true_eq] at k2
  exact ⟨q', k1, by rw [← k2]; exact q2⟩
def chkTy (P : sP) (p : Nat) (lo hi : Int) : Bool := match spAt P p with
  | some h => decide (lo ≤ h.1) && decide (h.2 ≤ hi)
  | none => false
theorem chkTy_ok {P : sP} {p : Nat} {lo hi : Int} (h : chkTy P p lo hi = true) : sTy P p lo hi := by
  unfold chkTy at h
  split at h
  · rename_i g c
    simp only [Bool.and_eq_true, decide_eq_true_eq] at h
    exact ⟨g, c, h.1, h.2⟩
  · cases h
def chkC (P : sP) : gC → Bool
  | .inl (_, fs) => fs.all (fun f => match f with | .inl p => chkTy P p i32l i32h | .inr _ => true)
  | .inr (.inl (t, b, n)) => Nat.blt n 2147483648 && (Nat.blt b 1000000 && (List.range n).all (fun j => chkTy P (b + j) i64l i64h && (Nat.beq t 3 || chkTy P (b + j) i32l i32h)))
  | .inr (.inr (_, ids)) => Nat.blt ids.length 2147483648
section ENVS
variable {P : sP} {G : List gC}
theorem chkC_obj {ci : Nat} {fs : List gF} (h : chkC P (.inl (ci, fs)) = true) (p : Nat) (hp : .inl p ∈ fs) : sTy P p i32l i32h := chkTy_ok (List.all_eq_true.mp h (.inl p) hp)
theorem chkC_arr {t b n : Nat} (h : chkC P (.inr (.inl (t, b, n))) = true) : n < 2147483648 ∧ b < 1000000 ∧ ∀ j, j < n → (t ≠ 3 → sTy P (b + j) i32l i32h) ∧ sTy P (b + j) i64l i64h := by
  simp only [chkC, Bool.and_eq_true, Nat.blt_eq, List.all_eq_true, List.mem_range, Bool.or_eq_true, Nat.beq_eq] at h
  exact ⟨h.1, h.2.1, fun j hj => ⟨fun ht => by
    rcases (h.2.2 j hj).2 with q | q
    · exact absurd q ht
    · exact chkTy_ok q, chkTy_ok (h.2.2 j hj).1⟩⟩
theorem chk_own (h : G.all (chkC P) = true) : sOwn P G := by
  intro k g hk p hp
  have hc := List.all_eq_true.mp h g (List.mem_of_getElem? hk)
  rcases g with ⟨ci, fs⟩ | ⟨t, b, n⟩ | ⟨t, ids⟩
  · simp only [gown, List.any_eq_true] at hp
    obtain ⟨f, f1, f2⟩ := hp
    rcases f with q | q
    · have e : q = p := by simpa using f2
      subst e
      obtain ⟨g, hg, -⟩ := chkC_obj hc q f1
      exact ⟨g, hg⟩
    · simp at f2
  · simp only [gown, Bool.and_eq_true, Nat.ble_eq, Nat.blt_eq] at hp
    obtain ⟨-, -, c⟩ := chkC_arr hc
    obtain ⟨g, hg, -⟩ := (c (p - b) (by omega)).2
    rw [show b + (p - b) = p by omega] at hg
    exact ⟨g, hg⟩
  · simp [gown] at hp
theorem chk_envG {X : gX} {E : sE} (h1 : chkG (gXG X) E.G = true) (h2 : glay 0 (gXG X) = true) (h3 : chkP E.P E.Q = true) (h4 : (gXG X).all (chkC E.P) = true) : sEnvG X E ∧ sEnvL E := by
  have hg : ∀ k g, gAt E.G k = some g → chkC E.P g = true := fun k g e => by
    rw [chkG_ok h1] at e
    exact List.all_eq_true.mp h4 g (List.mem_of_getElem? e)
  refine ⟨⟨fun k g e => by rw [← chkG_ok h1]; exact e, h2, chkP_ok h3, fun k ci fs e p hp => chkC_obj (hg k _ e) p hp, fun k t b n e => (chkC_arr (hg k _ e)).2.2⟩, fun k t b n e => ⟨(chkC_arr (hg k _ e)).1, (chkC_arr (hg k _ e)).2.1⟩, fun k t ids e => ?_⟩
  have := hg k _ e
  simp only [chkC, Nat.blt_eq] at this
  exact this
theorem chk_PM {Q : sP1} {M : Nat} (h3 : chkP P Q = true) (h : Q.all (fun q => Nat.ble q.2.1 M) = true) (p : Nat) (g : Int × Int) (e : spAt P p = some g) : p < M := by
  obtain ⟨q, k1, k2, k3, -⟩ := chkP_ok h3 p g e
  have := List.all_eq_true.mp h q k1
  rw [Nat.ble_eq] at this
  omega
theorem aFind_mem {α : Type} : ∀ (l : List (Nat × α)) (k : Nat) (v : α), aFind l k = some v → (k, v) ∈ l
  | [], _, _, e => by cases e
  | q :: t, k, v, e => by
    simp only [aFind] at e
    split at e
    · rename_i c
      rw [Nat.beq_eq] at c
      cases e
      rw [← c]
      exact List.mem_cons_self
    · exact List.mem_cons_of_mem _ (aFind_mem t k v e)
theorem cAt_mem : ∀ (C : sCode) (p : Nat) (q : Instr × Nat), cAt C p = some q → ∃ b ∈ C, (p, q) ∈ b.2
  | [], _, _, e => by cases e
  | b :: t, p, q, e => by
    simp only [cAt] at e
    split at e
    · exact ⟨b, List.mem_cons_self, aFind_mem _ _ _ e⟩
    · obtain ⟨b', h1, h2⟩ := cAt_mem t p q e
      exact ⟨b', List.mem_cons_of_mem _ h1, h2⟩
def isOk (x : Except DecodeError (Instr × Nat)) (q : Instr × Nat) : Bool := match x with
  | .ok r => decide (r = q)
  | .error _ => false
theorem isOk_ok {x : Except DecodeError (Instr × Nat)} {q : Instr × Nat} (h : isOk x q = true) : x = .ok q := by
  unfold isOk at h
  split at h
  · rw [decide_eq_true_eq] at h
    rw [h]
  · cases h
/-- a method's listing: it is what its bytes say, and fits its locals -/
def chkK (cb : ByteArray) (n : Nat) (C : sCode) : Bool := C.all (fun b => b.2.all (fun e => isOk (decode cb e.1) e.2 && eFit n e.2))
theorem chkK_ok {X : gX} {C : sCode} (h : chkK (gXy X) (gXn X) C = true) : sCodeOK X C ∧ ∀ p q, cAt C p = some q → eFit (gXn X) q = true := by
  have key : ∀ p q, cAt C p = some q → isOk (decode (gXy X) p) q = true ∧ eFit (gXn X) q = true := fun p q e => by
    obtain ⟨b, b1, b2⟩ := cAt_mem C p q e
    have := List.all_eq_true.mp (List.all_eq_true.mp h b b1) (p, q) b2
    simp only [Bool.and_eq_true] at this
    exact this
  exact ⟨fun p q e => isOk_ok (key p q e).1, fun p q e => (key p q e).2⟩
end ENVS
