/-! THE ENGINE IS SOUND: a contract checked is a contract kept -/
theorem gRep_ext {X : gX} {mu mu' : gM} {H : Heap} {locs : List Loc} (h : ∀ (k : Nat) (g : gC), (gXG X)[k]? = some g → ∀ p, gown g p = true → mu' p = mu p) (hR : gRep X mu H locs) : gRep X mu' H locs := by
  refine ⟨fun k q hq => ?_, hR.2⟩
  rw [gW_at] at hq
  cases e : (gXG X)[k]? with
  | none => rw [e] at hq; cases hq
  | some g =>
    rw [e] at hq
    simp only [Option.map_some, Option.some.injEq] at hq
    subst hq
    refine gat_up (h k g e) (hR.1 k _ ?_)
    rw [gW_at, e]
    rfl
theorem gG_ext {X : gX} {pc : Nat} {lv : List (Nat × gV)} {st : List gV} {mu mu' : gM} (h : ∀ (k : Nat) (g : gC), (gXG X)[k]? = some g → ∀ p, gown g p = true → mu' p = mu p) (k : gG X pc lv st mu') : gG X pc lv st mu :=
  fun H locs ls hR hl => k H locs ls (gRep_ext h hR) hl
/-- every place of the graph has a profile -/
def sOwn (P : sP) (G : List gC) : Prop := ∀ (k : Nat) (g : gC), G[k]? = some g → ∀ p, gown g p = true → ∃ h, spAt P p = some h
/-- the memory with all places without a profile as they were -/
def gMix (P : sP) (mu mu2 : gM) : gM := fun p => match spAt P p with
  | some _ => mu2 p
  | none => mu p
theorem gMix_s {P : sP} {mu mu2 : gM} {p : Nat} {g : Int × Int} (h : spAt P p = some g) : gMix P mu mu2 p = mu2 p := by
  unfold gMix
  rw [h]
theorem gMix_n {P : sP} {mu mu2 : gM} {p : Nat} (h : spAt P p = none) : gMix P mu mu2 p = mu p := by
  unfold gMix
  rw [h]
theorem sSame_ok {P : sP} {B : sS} {r : Nat → Int} (hF : sFx P r B) {a b : sL} (e : sSame P B a b = true) : sEv r a = sEv r b := by
  unfold sSame at e
  rw [Bool.or_eq_true] at e
  rcases e with e | e
  · rw [lEq_ok e]
  · cases c : sB P B.iv (sSub a b) with
    | none => rw [c] at e; cases e
    | some g =>
      rw [c] at e
      simp only [Bool.and_eq_true, decide_eq_true_eq] at e
      have := sB_ok hF.1 hF.2.2 c
      rw [sEv_sub] at this
      omega
theorem sLook_any : ∀ (me : sMem) (p : Nat) (o : Option sL), sLook me p = some o → ∃ q ∈ me, q.1 ≤ p ∧ p ≤ q.2.1 ∧ q.2.2 = o
  | [], _, _, e => by cases e
  | q :: t, p, o, e => by
    rw [sLook_cons] at e
    by_cases c : q.1 ≤ p ∧ p ≤ q.2.1
    · rw [if_pos c] at e
      cases e
      exact ⟨q, List.mem_cons_self, c.1, c.2, rfl⟩
    · rw [if_neg c] at e
      obtain ⟨q', h1, h2⟩ := sLook_any t p o e
      exact ⟨q', List.mem_cons_of_mem _ h1, h2⟩
theorem sLook_none : ∀ (me : sMem) (p : Nat), sLook me p = none → ∀ q ∈ me, ¬ (q.1 ≤ p ∧ p ≤ q.2.1)
  | [], _, _, q, hq => absurd hq List.not_mem_nil
  | q0 :: t, p, e, q, hq => by
    rw [sLook_cons] at e
    by_cases c : q0.1 ≤ p ∧ p ≤ q0.2.1
    · rw [if_pos c] at e
      cases e
    · rw [if_neg c] at e
      rcases List.mem_cons.mp hq with rfl | hq
      · exact c
      · exact sLook_none t p e q hq
section COVER
variable {X : gX} {P : sP} {F : Nat → Int → gM → Int} {M : Nat}
theorem cover_ok {B : sS} {x : sX} (hc : sCover P M B x = true) (hPM : ∀ p g, spAt P p = some g → p < M) {av : List gV} {mu mu2 : gM} {r : Nat → Int} {lv : List (Nat × gV)} {sv : List gV} (h0 : sIn0 M F av mu r) (hB : sSatB P F r B lv mu2) (hv : sRelS r B.st sv) : ∃ ret, sv = retS ret [] ∧ sXOK M P F av mu x ret (gMix P mu mu2) := by
  unfold sCover at hc
  cases cm : sCovM P M B x.2.1 [] with
  | none => rw [cm] at hc; cases hc
  | some m0 =>
    rw [cm] at hc
    simp only [Bool.and_eq_true] at hc
    obtain ⟨c1, c2, c3, c4, c5⟩ := hc
    generalize sCovA M B x.1 m0 = m at c1 c2 c4 c5
    let rho : Nat → Int := fun k => if k < M + 16 then r k else match aFind m k with
      | some u => sEv r u
      | none => 0
    have hlo : ∀ k, k < M + 16 → rho k = r k := fun k hk => if_pos hk
    have hk : sKey (sMapF M m) rho r := fun k l e => by
      unfold sMapF at e
      by_cases c : M + 16 ≤ k
      · rw [if_pos (Nat.ble_eq.mpr c)] at e
        show sEv r l = (if k < M + 16 then r k else match aFind m k with | some u => sEv r u | none => 0)
        rw [if_neg (by omega), e]
      · rw [if_neg (by rw [Nat.ble_eq]; exact c)] at e
        cases e
        rw [sEv_Y, hlo k (by omega)]
    have hin : sIn0 M F av mu rho := by
      refine ⟨fun k q => (hlo k (by omega)).trans (h0.1 k q), fun j v e q => ?_, fun i j e => ?_⟩
      · have := h0.2.1 j v e q
        rw [hlo (M + j) (by omega)]
        exact this
      · have hi : i < 3 := (List.getElem?_eq_some_iff.mp e).1
        rw [hlo (M + 9 + i) (by omega)]
        exact h0.2.2 i j e
    have hret : ∃ ret, sv = retS ret [] ∧ (match x.1, ret with | none, none => True | some a, some v => sRel rho a v | _, _ => False) := by
      generalize x.1 = xa at c1
      generalize B.st = bs at c1 hv
      rcases xa with _ | ((l | l) | o)
      · rcases bs with _ | ⟨b, bs⟩
        · rcases sv with _ | ⟨v, sv⟩
          · exact ⟨none, rfl, trivial⟩
          · cases hv
        · cases c1
      · rcases bs with _ | ⟨(b | b) | b, _ | ⟨b2, bs⟩⟩
        all_goals try (cases c1; done)
        rcases sv with _ | ⟨(v | v) | v, _ | ⟨v2, sv⟩⟩
        all_goals try (cases hv; done)
        all_goals try (cases hv.1; done)
        all_goals try (cases hv.2; done)
        simp only at c1
        cases c6 : sSubL (sMapF M m) l with
        | none => rw [c6] at c1; cases c1
        | some u =>
          rw [c6] at c1
          refine ⟨some (gI v), rfl, ?_⟩
          show v.toInt = sEv rho l
          rw [← sSubL_ok hk c6, sSame_ok hB.2.2.1 c1]
          exact hv.1
      · rcases bs with _ | ⟨(b | b) | b, _ | ⟨b2, bs⟩⟩
        all_goals try (cases c1; done)
        rcases sv with _ | ⟨(v | v) | v, _ | ⟨v2, sv⟩⟩
        all_goals try (cases hv; done)
        all_goals try (cases hv.1; done)
        all_goals try (cases hv.2; done)
        simp only at c1
        cases c6 : sSubL (sMapF M m) l with
        | none => rw [c6] at c1; cases c1
        | some u =>
          rw [c6] at c1
          refine ⟨some (gL v), rfl, ?_⟩
          show v.toInt = sEv rho l
          rw [← sSubL_ok hk c6, sSame_ok hB.2.2.1 c1]
          exact hv.1
      · rcases bs with _ | ⟨(b | b) | b, _ | ⟨b2, bs⟩⟩
        all_goals try (cases c1; done)
        rcases sv with _ | ⟨(v | v) | v, _ | ⟨v2, sv⟩⟩
        all_goals try (cases hv; done)
        all_goals try (cases hv.1; done)
        all_goals try (cases hv.2; done)
        exact ⟨some (.inr v), rfl, (oEq_ok c1).trans hv.1⟩
    obtain ⟨ret, e1, e2⟩ := hret
    refine ⟨ret, e1, rho, hin, e2, fun p g hp => ?_, fun p => ?_, fun q hq => ?_, fun l hl => ?_⟩
    · rw [gMix_s hp]
      exact (hB.2.1 p g hp).1
    · cases c6 : sLook x.2.1 p with
      | none =>
        simp only
        cases c7 : spAt P p with
        | none => exact gMix_n c7
        | some g =>
          rw [gMix_s c7]
          have q := (hB.2.1 p g c7).2
          have c8 : sLook B.me p = none := by
            cases c9 : sLook B.me p with
            | none => rfl
            | some o =>
              obtain ⟨e, he, z1, z2, -⟩ := sLook_any _ _ _ c9
              obtain ⟨w, w1, w2⟩ := List.any_eq_true.mp (List.all_eq_true.mp c3 e he)
              simp only [Bool.and_eq_true, Nat.ble_eq] at w2
              exact absurd (show w.1 ≤ p ∧ p ≤ w.2.1 by omega) (sLook_none _ _ c6 w w1)
          rw [c8] at q
          simp only at q
          rw [q]
          exact h0.1 p (hPM p g c7)
      | some o =>
        cases o with
        | none => trivial
        | some l =>
          simp only
          obtain ⟨e, he, z1, z2, z3⟩ := sLook_any _ _ _ c6
          have w := List.all_eq_true.mp c2 e he
          rw [z3] at w
          simp only [Bool.and_eq_true, Nat.beq_eq] at w
          have ep : e.1 = p := by omega
          have w2 := w.2
          split at w2
          · rename_i u v d1 d2
            rw [ep] at d2
            obtain ⟨g, hg⟩ := sVal_at d2
            rw [gMix_s hg, sVal_ok' hB.2.1 d2, ← sSubL_ok hk d1]
            exact (sSame_ok hB.2.2.1 w2).symm
          · cases w2
    · have w := List.all_eq_true.mp c4 q hq
      cases c6 : sMapF M m q.1 with
      | none => rw [c6] at w; cases w
      | some u =>
        rw [c6] at w
        rw [← hk _ _ c6]
        exact sRanged_ok hB.2.2.1.1 hB.2.2.1.2.2 w
    · have w := List.all_eq_true.mp c5 l hl
      cases c6 : sSubL (sMapF M m) l with
      | none => rw [c6] at w; cases w
      | some u =>
        rw [c6] at w
        rw [← sSubL_ok hk c6]
        exact sLeq_ok hB.2.2.1.1 hB.2.2.1.2.2 hB.2.2.1.2.1 w
end COVER
