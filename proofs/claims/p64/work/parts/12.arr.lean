/-! THE ENGINE IS SOUND: rows, switches, references -/
section ARRW
variable {X : gX} {E : sE} {F : Nat → Int → gM → Int} {n0 : Nat} {r0 : Nat → Int}
theorem sVal_ok {P : sP} {S : sS} {r : Nat → Int} {mu : gM} (h : sMeOK P r S.me mu) {p : Nat} {l : sL} {g : Int × Int} (hp : spAt P p = some g) (e : sVal P S p = some l) : mu p = sEv r l := by
  have a := h p g hp
  unfold sVal at e
  rw [hp] at e
  simp only at e
  cases c : sLook S.me p with
  | none =>
    rw [c] at e a
    simp only [Option.some.injEq] at e
    subst e
    by_cases hc : g.1 = g.2
    · rw [if_pos hc, sEv_K]
      omega
    · rw [if_neg hc, sEv_Y]
      exact a.2
  | some o =>
    cases o with
    | none => rw [c] at e; cases e
    | some l' =>
      rw [c] at e a
      cases e
      exact a.2
theorem sValB_ok {P : sP} {S : sS} {r : Nat → Int} {mu : gM} (h : sMeOK P r S.me mu) (hF : sFx P r S) {p : Nat} {g h' : Int × Int} (hp : spAt P p = some h') (e : sValB P S p = some g) : g.1 ≤ mu p ∧ mu p ≤ g.2 := by
  unfold sValB at e
  cases c : sVal P S p with
  | none =>
    rw [c] at e
    exact (h p g e).1
  | some l =>
    rw [c] at e
    rw [sVal_ok h hp c]
    exact sB_ok hF.1 hF.2.2 e
theorem sHullV_ok {P : sP} {S : sS} {r : Nat → Int} {mu : gM} (h : sMeOK P r S.me mu) (hF : sFx P r S) (a : Nat) : ∀ (n : Nat) (g : Int × Int), (∀ j, j < n → ∃ h', spAt P (a + j) = some h') → sHullV P S a n = some g → ∀ j, j < n → g.1 ≤ mu (a + j) ∧ mu (a + j) ≤ g.2
  | 0, _, _, e => by cases e
  | 1, g, hp, e => fun j hj => by
    have : j = 0 := by omega
    subst this
    obtain ⟨h', hp'⟩ := hp 0 (by omega)
    exact sValB_ok h hF hp' e
  | n + 2, g, hp, e => fun j hj => by
    simp only [sHullV] at e
    cases c1 : sHullV P S a (n + 1) with
    | none => rw [c1] at e; cases e
    | some g1 =>
      rw [c1] at e
      cases c2 : sValB P S (a + (n + 1)) with
      | none => rw [c2] at e; cases e
      | some g2 =>
        rw [c2] at e
        simp only [Option.some.injEq] at e
        subst e
        have m1 := iMin_le g1.1 g2.1
        have m2 := iMax_ge g1.2 g2.2
        by_cases hj2 : j < n + 1
        · have := sHullV_ok h hF a (n + 1) g1 (fun j hj => hp j (by omega)) c1 j hj2
          simp only
          omega
        · have e3 : j = n + 1 := by omega
          subst e3
          obtain ⟨h', hp'⟩ := hp (n + 1) (by omega)
          have := sValB_ok h hF hp' c2
          simp only
          omega
theorem spHull_ok : ∀ (Q : sP1) (a b : Nat) (acc : Option (Int × Int)) (g : Int × Int), spHull Q a b acc = some g → (∀ h, acc = some h → g.1 ≤ h.1 ∧ h.2 ≤ g.2) ∧ ∀ q ∈ Q, ∀ p, a ≤ p → p ≤ b → q.1 ≤ p → p < q.2.1 → g.1 ≤ q.2.2.1 ∧ q.2.2.2 ≤ g.2
  | [], a, b, acc, g, e => ⟨fun h hh => by
      simp only [spHull] at e
      cases e.symm.trans hh
      exact ⟨Int.le_refl _, Int.le_refl _⟩, fun q hq => absurd hq List.not_mem_nil⟩
  | q0 :: t, a, b, acc, g, e => by
    simp only [spHull] at e
    by_cases c : (Nat.blt q0.1 (b + 1) && Nat.blt a q0.2.1) = true
    · rw [if_pos c] at e
      obtain ⟨h1, h2⟩ := spHull_ok t a b _ g e
      refine ⟨fun h hh => ?_, fun q hq p p1 p2 p3 p4 => ?_⟩
      · subst hh
        have := h1 _ rfl
        have m1 := iMin_le h.1 q0.2.2.1
        have m2 := iMax_ge h.2 q0.2.2.2
        simp only at this
        omega
      · rcases List.mem_cons.mp hq with rfl | hq
        · cases acc with
          | none => exact h1 _ rfl
          | some h =>
            have := h1 _ rfl
            have m1 := iMin_le h.1 q.2.2.1
            have m2 := iMax_ge h.2 q.2.2.2
            simp only at this
            omega
        · exact h2 q hq p p1 p2 p3 p4
    · rw [if_neg c] at e
      obtain ⟨h1, h2⟩ := spHull_ok t a b _ g e
      refine ⟨h1, fun q hq p p1 p2 p3 p4 => ?_⟩
      rcases List.mem_cons.mp hq with rfl | hq
      · exfalso
        apply c
        simp only [Bool.and_eq_true, Nat.blt_eq]
        omega
      · exact h2 q hq p p1 p2 p3 p4
theorem sHull_ok (hG : sEnvG X E) {S : sS} {r : Nat → Int} {mu : gM} (h : sMeOK E.P r S.me mu) (hF : sFx E.P r S) {a b : Nat} {g : Int × Int} (hp : ∀ p, a ≤ p → p ≤ b → ∃ h', spAt E.P p = some h') (e : sHull E S a b = some g) {p : Nat} (h1 : a ≤ p) (h2 : p ≤ b) : g.1 ≤ mu p ∧ mu p ≤ g.2 := by
  unfold sHull at e
  by_cases c : Nat.blt (b - a) 16 = true
  · rw [if_pos c] at e
    have := sHullV_ok h hF a (b - a + 1) g (fun j hj => hp (a + j) (by omega) (by omega)) e (p - a) (by omega)
    rw [show a + (p - a) = p by omega] at this
    exact this
  · rw [if_neg c] at e
    obtain ⟨h', hp'⟩ := hp p h1 h2
    obtain ⟨q, q1, q2, q3, q4⟩ := hG.2.2.1 p h' hp'
    have b1 := (spHull_ok E.Q a b none g e).2 q q1 p h1 h2 q2 q3
    have b2 := (h p h' hp').1
    rw [q4] at b1
    omega
theorem sKnow_mem : ∀ (mm : sMm) (b n : Nat) (i v : sL), sKnow mm b n i = some v → (b, n, i, v) ∈ mm
  | [], _, _, _, _, e => by cases e
  | q :: t, b, n, i, v, e => by
    simp only [sKnow] at e
    by_cases c : (Nat.beq q.1 b && (Nat.beq q.2.1 n && lEq q.2.2.1 i)) = true
    · rw [if_pos c] at e
      simp only [Bool.and_eq_true, Nat.beq_eq] at c
      obtain ⟨c1, c2, c3⟩ := c
      have c4 := lEq_ok c3
      cases e
      subst c1; subst c2; subst c4
      exact List.mem_cons_self
    · rw [if_neg c] at e
      exact List.mem_cons_of_mem _ (sKnow_mem t b n i v e)
theorem W_rdAI (hG : sEnvG X E) {S : sS} {pc : Nat} {st : List sA} {b n : Nat} {i : sL} {h : Nat × Nat} {L : List sS} (e : sRdAI E S pc st b n i h = some L) {x : Int} (h1 : h.1 ≤ x.toNat) (h2 : x.toNat ≤ h.2) (h3 : h.2 < n) (h0 : 0 ≤ x) (hb : b < 1000000) (hty : ∀ j, j < n → sTy E.P (b + j) i32l i32h) (hW : ∀ T ∈ L, sW X E.P F n0 r0 T) (hn : n0 ≤ S.nx) {r : Nat → Int} {lv : List (Nat × gV)} {sv : List gV} {mu : gM} (hr : sAg n0 r0 r) (hS : ∀ r', sAg S.nx r r' → sSatB E.P F r' S lv mu ∧ sRelS r' st sv) (hx : ∀ r', sAg S.nx r r' → x = sEv r' i) : gG X pc lv (gI (Int32.ofInt (mu (b + x.toNat))) :: sv) mu := by
  unfold sRdAI at e
  by_cases c : h.1 = h.2
  · rw [if_pos c] at e
    have e2 : x.toNat = h.1 := by omega
    rw [e2]
    exact W_rdI e hW hn hr hS (hty h.1 (by omega))
  · rw [if_neg c] at e
    obtain ⟨h', hp, t1, t2⟩ := hty x.toNat (by omega)
    have hm := ((hS r (sAg.rf _ _)).1.2.1 _ h' hp).1
    have ez : (Int32.ofInt (mu (b + x.toNat))).toInt = mu (b + x.toNat) := of_i32 (by omega) (by omega)
    cases ck : sKnow S.mm b n i with
    | some v =>
      rw [ck] at e
      cases e
      refine W_push (hW _ List.mem_cons_self) hn hr hS (fun r' q => ?_)
      have := (hS r' q).1.2.2.2 _ (sKnow_mem _ _ _ _ _ ck)
      simp only at this
      rw [if_pos hb, ← hx r' q] at this
      show (Int32.ofInt (mu (b + x.toNat))).toInt = sEv r' v
      rw [ez]
      exact this h0 (by omega)
    | none =>
      rw [ck] at e
      simp only at e
      cases ch : sHull E S (b + h.1) (b + h.2) with
      | none => rw [ch] at e; cases e
      | some g =>
        rw [ch] at e
        cases e
        have hh := sHull_ok hG (hS r (sAg.rf _ _)).1.2.1 (hS r (sAg.rf _ _)).1.2.2.1 (fun p p1 p2 => by
          obtain ⟨z, z1, -⟩ := hty (p - b) (by omega)
          rw [show b + (p - b) = p by omega] at z1
          exact ⟨z, z1⟩) ch (p := b + x.toNat) (by omega) (by omega)
        refine hW _ List.mem_cons_self (sUp r S.nx (mu (b + x.toNat))) lv _ mu (Nat.le_succ_of_le hn) (hr.tr sUp_ag hn) (fun r' q => ?_)
        obtain ⟨b1, b2, b3⟩ := new_ok hS hh.1 hh.2 r' q
        refine ⟨⟨b1.1, b1.2.1, b1.2.2.1, fun m hm => ?_⟩, ⟨?_, b2⟩⟩
        · rcases List.mem_cons.mp hm with rfl | hm
          · simp only
            rw [if_pos hb, ← hx r' (sUp_ag.tr q (Nat.le_succ _)), sEv_Y, b3]
            intro _ _
            rfl
          · exact b1.2.2.2 m hm
        · show (Int32.ofInt (mu (b + x.toNat))).toInt = sEv r' (sY S.nx)
          rw [ez, sEv_Y, b3]
theorem W_rdAL (hG : sEnvG X E) {S : sS} {pc : Nat} {st : List sA} {b n : Nat} {i : sL} {h : Nat × Nat} {L : List sS} (e : sRdAL E S pc st b n i h = some L) {x : Int} (h1 : h.1 ≤ x.toNat) (h2 : x.toNat ≤ h.2) (h3 : h.2 < n) (h0 : 0 ≤ x) (hb : b < 1000000) (hty : ∀ j, j < n → sTy E.P (b + j) i64l i64h) (hW : ∀ T ∈ L, sW X E.P F n0 r0 T) (hn : n0 ≤ S.nx) {r : Nat → Int} {lv : List (Nat × gV)} {sv : List gV} {mu : gM} (hr : sAg n0 r0 r) (hS : ∀ r', sAg S.nx r r' → sSatB E.P F r' S lv mu ∧ sRelS r' st sv) (hx : ∀ r', sAg S.nx r r' → x = sEv r' i) : gG X pc lv (gL (Int64.ofInt (mu (b + x.toNat))) :: sv) mu := by
  unfold sRdAL at e
  by_cases c : h.1 = h.2
  · rw [if_pos c] at e
    have e2 : x.toNat = h.1 := by omega
    rw [e2]
    exact W_rdL e hW hn hr hS (hty h.1 (by omega))
  · rw [if_neg c] at e
    obtain ⟨h', hp, t1, t2⟩ := hty x.toNat (by omega)
    have hm := ((hS r (sAg.rf _ _)).1.2.1 _ h' hp).1
    have ez : (Int64.ofInt (mu (b + x.toNat))).toInt = mu (b + x.toNat) := of_i64 (by omega) (by omega)
    cases ck : sKnow S.mm b n i with
    | some v =>
      rw [ck] at e
      cases e
      refine W_push (hW _ List.mem_cons_self) hn hr hS (fun r' q => ?_)
      have := (hS r' q).1.2.2.2 _ (sKnow_mem _ _ _ _ _ ck)
      simp only at this
      rw [if_pos hb, ← hx r' q] at this
      show (Int64.ofInt (mu (b + x.toNat))).toInt = sEv r' v
      rw [ez]
      exact this h0 (by omega)
    | none =>
      rw [ck] at e
      simp only at e
      cases ch : sHull E S (b + h.1) (b + h.2) with
      | none => rw [ch] at e; cases e
      | some g =>
        rw [ch] at e
        cases e
        have hh := sHull_ok hG (hS r (sAg.rf _ _)).1.2.1 (hS r (sAg.rf _ _)).1.2.2.1 (fun p p1 p2 => by
          obtain ⟨z, z1, -⟩ := hty (p - b) (by omega)
          rw [show b + (p - b) = p by omega] at z1
          exact ⟨z, z1⟩) ch (p := b + x.toNat) (by omega) (by omega)
        refine hW _ List.mem_cons_self (sUp r S.nx (mu (b + x.toNat))) lv _ mu (Nat.le_succ_of_le hn) (hr.tr sUp_ag hn) (fun r' q => ?_)
        obtain ⟨b1, b2, b3⟩ := new_ok hS hh.1 hh.2 r' q
        refine ⟨⟨b1.1, b1.2.1, b1.2.2.1, fun m hm => ?_⟩, ⟨?_, b2⟩⟩
        · rcases List.mem_cons.mp hm with rfl | hm
          · simp only
            rw [if_pos hb, ← hx r' (sUp_ag.tr q (Nat.le_succ _)), sEv_Y, b3]
            intro _ _
            rfl
          · exact b1.2.2.2 m hm
        · show (Int64.ofInt (mu (b + x.toNat))).toInt = sEv r' (sY S.nx)
          rw [ez, sEv_Y, b3]
/-- a value taken apart: the state in which the form is this number -/
theorem W_is {S : sS} {P : sP} {l : sL} {v : Int} (hW : ∀ T, sEq P S (sAdd l (sK (-v))) = some T → sW X P F n0 r0 T) (hn : n0 ≤ S.nx) {r : Nat → Int} {lv : List (Nat × gV)} {sv : List gV} {mu : gM} (hr : sAg n0 r0 r) (hS : ∀ r', sAg S.nx r r' → sSatB P F r' S lv mu ∧ sRelS r' S.st sv) (hx : ∀ r', sAg S.nx r r' → v = sEv r' l) : gG X S.pc lv sv mu := by
  have hz : ∀ r', sAg S.nx r r' → sEv r' (sAdd l (sK (-v))) = 0 := fun r' q => by
    rw [sEv_add, sEv_K, ← hx r' q]
    omega
  obtain ⟨T, e1, k1, q1⟩ := sEq_ok (hS r (sAg.rf _ _)).1.2.2.1 (hz r (sAg.rf _ _))
  exact W_eqv (hW T e1) q1 hn hr hS (fun r' h => by
    obtain ⟨T', e2, k2, q2⟩ := sEq_ok (hS r' h).1.2.2.1 (hz r' h)
    cases e1.symm.trans e2
    exact k2)
end ARRW
