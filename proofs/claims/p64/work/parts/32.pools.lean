/-! THE TABLES, checked: a class's pool -/
def chkF (own : String) (q : Nat × Nat × Nat × Nat) : Bool :=
  match vwCl[q.2.1]? with
  | some (C, T, N) => decide (q.2.2.1 < N) && (decide (Jvm.Cond.fieldLink own q.1 C (T q.2.2.1).2.1 (T q.2.2.1).2.2.1 ∈ TW) &&
      ((!(Nat.beq q.2.2.2 0) || (!(T q.2.2.1).2.2.2 && decide (parseFieldDescriptor (T q.2.2.1).2.2.1 = some .int))) && (!(Nat.beq q.2.2.2 1) || (!(T q.2.2.1).2.2.2 && decide (parseFieldDescriptor (T q.2.2.1).2.2.1 = some .boolean)))))
  | none => false
def chkW (own : String) (E : sE) : Bool :=
  E.CI.all (fun q => decide (Jvm.Cond.constant own q.1 (Int32.ofInt q.2) ∈ TW) && (decide (i32l ≤ q.2) && decide (q.2 ≤ i32h))) &&
  (E.CL.all (fun q => decide (Jvm.Cond.constantLong own q.1 (Int64.ofInt q.2) ∈ TW) && (decide (i64l ≤ q.2) && decide (q.2 ≤ i64h))) &&
  (E.CS.all (fun q => gSR.any (fun s => decide (s.1 = own) && (Nat.beq s.2.1 q.1 && Nat.beq s.2.2.2 q.2))) && E.F.all (chkF own)))
theorem chk_envK {X : gX} {E : sE} {adV : Nat → Nat} (hOE : gOE X adV) (hcl : ∀ ci C T N, vwCl[ci]? = some (C, T, N) → gcls ci C T N) (h : chkW (gXo X) E = true) : sEnvK X E := by
  unfold chkW at h
  simp only [Bool.and_eq_true, List.all_eq_true, decide_eq_true_eq] at h
  obtain ⟨h1, h2, h3, h4⟩ := h
  refine ⟨fun i v e => h1 (i, v) (aFind_mem _ _ _ e), fun i v e => h2 (i, v) (aFind_mem _ _ _ e), fun i j e => ?_, fun i cf e => ?_⟩
  · have c := h3 (i, j) (aFind_mem _ _ _ e)
    obtain ⟨s, s1, s2⟩ := List.any_eq_true.mp c
    simp only [Bool.and_eq_true, decide_eq_true_eq, Nat.beq_eq] at s2
    have r := hOE.1.2.2.1 s s1
    rw [s2.1, s2.2.1, s2.2.2] at r
    exact ⟨_, r⟩
  · have c := h4 (i, cf) (aFind_mem _ _ _ e)
    unfold chkF at c
    simp only at c
    split at c
    · rename_i C T N hv
      simp only [Bool.and_eq_true, Bool.or_eq_true, Bool.not_eq_true', decide_eq_true_eq] at c
      refine ⟨C, T, N, hcl _ _ _ _ hv, c.1, c.2.1, fun z => ?_, fun z => ?_⟩
      · rcases c.2.2.1 with w | w
        · rw [← Bool.not_eq_true, Nat.beq_eq] at w
          exact absurd z w
        · exact w
      · rcases c.2.2.2 with w | w
        · rw [← Bool.not_eq_true, Nat.beq_eq] at w
          exact absurd z w
        · exact w
    · cases c
