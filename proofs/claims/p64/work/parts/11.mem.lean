/-! THE ENGINE IS SOUND: the memory -/
theorem of_i32 {n : Int} (h1 : i32l ≤ n) (h2 : n ≤ i32h) : (Int32.ofInt n).toInt = n := by
  unfold i32l at h1
  unfold i32h at h2
  exact Int32.toInt_ofInt_of_le (by omega) (by omega)
theorem of_i64 {n : Int} (h1 : i64l ≤ n) (h2 : n ≤ i64h) : (Int64.ofInt n).toInt = n := by
  unfold i64l at h1
  unfold i64h at h2
  exact Int64.toInt_ofInt_of_le (by omega) (by omega)
/-- the places of the graph have profiles of their kinds -/
def sTy (P : sP) (p : Nat) (lo hi : Int) : Prop := ∃ h, spAt P p = some h ∧ lo ≤ h.1 ∧ h.2 ≤ hi
/-- the tables speak of this frame's graph and words -/
def sEnvG (X : gX) (E : sE) : Prop :=
  (∀ k g, gAt E.G k = some g → (gXG X)[k]? = some g) ∧ glay 0 (gXG X) = true ∧
  (∀ p h, spAt E.P p = some h → ∃ q ∈ E.Q, q.1 ≤ p ∧ p < q.2.1 ∧ q.2.2 = h) ∧
  (∀ k ci fs, gAt E.G k = some (.inl (ci, fs)) → ∀ p, .inl p ∈ fs → sTy E.P p i32l i32h) ∧
  (∀ k t b n, gAt E.G k = some (.inr (.inl (t, b, n))) → ∀ j, j < n → (t ≠ 3 → sTy E.P (b + j) i32l i32h) ∧ sTy E.P (b + j) i64l i64h)
def sEnvF (E : sE) (F : Nat → Int → gM → Int) : Prop :=
  (∀ key i mu p v, 1000000 ≤ key → key < 2000000 → (∀ q ∈ E.DG, p < q.1 ∨ q.2 < p) → F key i (gup mu p v) = F key i mu) ∧
  (∀ key i mu p v, 2000000 ≤ key → (∀ q ∈ E.DS, p < q.1 ∨ q.2 < p) → F key i (gup mu p v) = F key i mu)
section MEMW
variable {X : gX} {E : sE} {F : Nat → Int → gM → Int} {n0 : Nat} {r0 : Nat → Int}
theorem W_rdI {S : sS} {pc : Nat} {st : List sA} {p : Nat} {L : List sS} (e : sRdI E S pc st p = some L) (hW : ∀ T ∈ L, sW X E.P F n0 r0 T) (hn : n0 ≤ S.nx) {r : Nat → Int} {lv : List (Nat × gV)} {sv : List gV} {mu : gM} (hr : sAg n0 r0 r) (hS : ∀ r', sAg S.nx r r' → sSatB E.P F r' S lv mu ∧ sRelS r' st sv) (hty : sTy E.P p i32l i32h) : gG X pc lv (gI (Int32.ofInt (mu p)) :: sv) mu := by
  obtain ⟨h, hp, t1, t2⟩ := hty
  have hv : ∀ r', sAg S.nx r r' → (h.1 ≤ mu p ∧ mu p ≤ h.2) ∧ (match sLook S.me p with | some (some l) => mu p = sEv r' l | some none => True | none => mu p = r' p) := fun r' q => (hS r' q).1.2.1 p h hp
  have hm := (hv r (sAg.rf _ _)).1
  have ez : (Int32.ofInt (mu p)).toInt = mu p := of_i32 (by omega) (by omega)
  unfold sRdI at e
  cases c : sLook S.me p with
  | none =>
    rw [c, hp] at e
    cases e
    refine W_push (hW _ List.mem_cons_self) hn hr hS (fun r' q => ?_)
    have a := hv r' q
    rw [c] at a
    show (Int32.ofInt (mu p)).toInt = sEv r' _
    rw [ez]
    by_cases hc : h.1 = h.2
    · rw [if_pos hc, sEv_K]
      omega
    · rw [if_neg hc, sEv_Y]
      exact a.2
  | some o =>
    cases o with
    | none =>
      rw [c, hp] at e
      cases e
      exact W_anyI (hW _ List.mem_cons_self) hn hr hS (by omega) (by omega)
    | some l =>
      rw [c] at e
      cases e
      refine W_push (hW _ List.mem_cons_self) hn hr hS (fun r' q => ?_)
      have a := hv r' q
      rw [c] at a
      show (Int32.ofInt (mu p)).toInt = sEv r' _
      rw [ez]
      exact a.2
theorem W_rdL {S : sS} {pc : Nat} {st : List sA} {p : Nat} {L : List sS} (e : sRdL E S pc st p = some L) (hW : ∀ T ∈ L, sW X E.P F n0 r0 T) (hn : n0 ≤ S.nx) {r : Nat → Int} {lv : List (Nat × gV)} {sv : List gV} {mu : gM} (hr : sAg n0 r0 r) (hS : ∀ r', sAg S.nx r r' → sSatB E.P F r' S lv mu ∧ sRelS r' st sv) (hty : sTy E.P p i64l i64h) : gG X pc lv (gL (Int64.ofInt (mu p)) :: sv) mu := by
  obtain ⟨h, hp, t1, t2⟩ := hty
  have hv : ∀ r', sAg S.nx r r' → (h.1 ≤ mu p ∧ mu p ≤ h.2) ∧ (match sLook S.me p with | some (some l) => mu p = sEv r' l | some none => True | none => mu p = r' p) := fun r' q => (hS r' q).1.2.1 p h hp
  have hm := (hv r (sAg.rf _ _)).1
  have ez : (Int64.ofInt (mu p)).toInt = mu p := of_i64 (by omega) (by omega)
  unfold sRdL at e
  cases c : sLook S.me p with
  | none =>
    rw [c, hp] at e
    cases e
    refine W_push (hW _ List.mem_cons_self) hn hr hS (fun r' q => ?_)
    have a := hv r' q
    rw [c] at a
    show (Int64.ofInt (mu p)).toInt = sEv r' _
    rw [ez]
    by_cases hc : h.1 = h.2
    · rw [if_pos hc, sEv_K]
      omega
    · rw [if_neg hc, sEv_Y]
      exact a.2
  | some o =>
    cases o with
    | none =>
      rw [c, hp] at e
      cases e
      exact W_anyL (hW _ List.mem_cons_self) hn hr hS (by omega) (by omega)
    | some l =>
      rw [c] at e
      cases e
      refine W_push (hW _ List.mem_cons_self) hn hr hS (fun r' q => ?_)
      have a := hv r' q
      rw [c] at a
      show (Int64.ofInt (mu p)).toInt = sEv r' _
      rw [ez]
      exact a.2
theorem spTakes_ok : ∀ (Q : sP1) (a b : Nat) (lo hi : Int), spTakes Q a b lo hi = true → ∀ q ∈ Q, ∀ p, a ≤ p → p ≤ b → q.1 ≤ p → p < q.2.1 → q.2.2.1 ≤ lo ∧ hi ≤ q.2.2.2
  | [], _, _, _, _, _, q, hq, _, _, _, _, _ => absurd hq List.not_mem_nil
  | q0 :: t, a, b, lo, hi, h, q, hq, p, h1, h2, h3, h4 => by
    simp only [spTakes, Bool.and_eq_true, Bool.or_eq_true, Bool.not_eq_true', decide_eq_true_eq] at h
    rcases List.mem_cons.mp hq with rfl | hq
    · rcases h.1 with h | h
      · simp only [Bool.and_eq_false_iff] at h
        rcases h with h | h
        · have : ¬ (q.1 < b + 1) := by rw [← Nat.blt_eq, h]; simp
          omega
        · have : ¬ (a < q.2.1) := by rw [← Nat.blt_eq, h]; simp
          omega
      · exact h
    · exact spTakes_ok t a b lo hi h.2 q hq p h1 h2 h3 h4
theorem sKeep_ok (hF : sEnvF E F) {a b p : Nat} (hp1 : a ≤ p) (hp2 : p ≤ b) {r : Nat → Int} {mm : sMm} {mu : gM} {v : Int} (h : sMmOK F r mm mu) : sMmOK F r (mm.filter (sKeep E a b)) (gup mu p v) := by
  intro q hq
  obtain ⟨hq1, hq2⟩ := List.mem_filter.mp hq
  have h1 := h q hq1
  unfold sKeep at hq2
  by_cases c : q.1 < 1000000
  · rw [if_pos c] at h1 ⊢
    rw [if_pos (by rw [Nat.blt_eq]; exact c)] at hq2
    intro z1 z2
    rw [gup_n]
    · exact h1 z1 z2
    · intro e
      simp only [sApart, Bool.or_eq_true, Nat.beq_eq, Nat.blt_eq] at hq2
      omega
  · rw [if_neg c] at h1 ⊢
    rw [if_neg (by rw [Nat.blt_eq]; exact c)] at hq2
    by_cases c2 : q.1 < 2000000
    · rw [if_pos (by rw [Nat.blt_eq]; exact c2)] at hq2
      rw [hF.1 _ _ _ _ _ (by omega) c2 (fun z hz => ?_)]
      · exact h1
      · have := List.all_eq_true.mp hq2 z hz
        simp only [sApart, Bool.or_eq_true, Nat.blt_eq] at this
        omega
    · rw [if_neg (by rw [Nat.blt_eq]; exact c2)] at hq2
      rw [hF.2 _ _ _ _ _ (by omega) (fun z hz => ?_)]
      · exact h1
      · have := List.all_eq_true.mp hq2 z hz
        simp only [sApart, Bool.or_eq_true, Nat.blt_eq] at this
        omega
theorem W_wr (hG : sEnvG X E) (hF : sEnvF E F) {S : sS} {pc : Nat} {st : List sA} {a b p : Nat} {l : sL} {L : List sS} (e : sWr E S pc st a b l = some L) (hp1 : a ≤ p) (hp2 : p ≤ b) (hW : ∀ T ∈ L, sW X E.P F n0 r0 T) (hn : n0 ≤ S.nx) {r : Nat → Int} {lv : List (Nat × gV)} {sv : List gV} {mu : gM} {v : Int} (hr : sAg n0 r0 r) (hS : ∀ r', sAg S.nx r r' → sSatB E.P F r' S lv mu ∧ sRelS r' st sv) (hv : ∀ r', sAg S.nx r r' → v = sEv r' l) : gG X pc lv sv (gup mu p v) := by
  unfold sWr at e
  cases c : sB E.P S.iv l with
  | none => rw [c] at e; cases e
  | some g =>
    rw [c] at e
    simp only at e
    by_cases hc : spTakes E.Q a b g.1 g.2 = true
    · rw [if_pos hc] at e
      cases e
      refine hW _ List.mem_cons_self r lv sv (gup mu p v) hn hr (fun r' q => ?_)
      obtain ⟨⟨a1, a2, a3, a4⟩, a5⟩ := hS r' q
      have hb := sB_ok a3.1 a3.2.2 c
      refine ⟨⟨a1, fun p' h' hp' => ?_, a3, sKeep_ok hF hp1 hp2 a4⟩, a5⟩
      obtain ⟨b1, b2⟩ := a2 p' h' hp'
      obtain ⟨qq, k1, k2, k3, k4⟩ := hG.2.2.1 p' h' hp'
      have hv' := hv r' q
      show _ ∧ (match (if Nat.ble a p' && Nat.ble p' b then some (if a = b then some l else none) else sLook S.me p') with | some (some l) => gup mu p v p' = sEv r' l | some none => True | none => gup mu p v p' = r' p')
      by_cases c1 : p' = p
      · subst c1
        have := spTakes_ok E.Q a b g.1 g.2 hc qq k1 p' hp1 hp2 k2 k3
        rw [k4] at this
        rw [gup_s, if_pos (by simp only [Bool.and_eq_true, Nat.ble_eq]; exact ⟨hp1, hp2⟩)]
        refine ⟨by omega, ?_⟩
        by_cases c2 : a = b
        · rw [if_pos c2]
          exact hv'
        · rw [if_neg c2]
          trivial
      · rw [gup_n c1]
        refine ⟨b1, ?_⟩
        by_cases c2 : (Nat.ble a p' && Nat.ble p' b) = true
        · rw [if_pos c2]
          simp only [Bool.and_eq_true, Nat.ble_eq] at c2
          by_cases c3 : a = b
          · omega
          · rw [if_neg c3]
            trivial
        · rw [if_neg c2]
          exact b2
    · rw [if_neg hc] at e
      cases e
theorem iMin_le (a b : Int) : iMin a b ≤ a ∧ iMin a b ≤ b := by
  unfold iMin
  split <;> omega
theorem iMax_ge (a b : Int) : a ≤ iMax a b ∧ b ≤ iMax a b := by
  unfold iMax
  split <;> omega
theorem sIvs_ok {P : sP} {r : Nat → Int} {S : sS} (hF : sFx P r S) {iv : sSt} (h : sIvOK r iv) : sFx P r (sIvs S iv) := ⟨h, hF.2.1, hF.2.2⟩
/-- an index in its row -/
theorem sIx_ok {S : sS} {l : sL} {n : Nat} {o : Option (sS × Nat × Nat)} (e : sIx E S l n = some o) {x : Int} (hn : n < 2147483648) {r : Nat → Int} (h : ∀ r', sAg S.nx r r' → sFx E.P r' S ∧ x = sEv r' l) :
    ∃ T a b, o = some (T, a, b) ∧ sEqv S T ∧ (∀ r', sAg S.nx r r' → sFx E.P r' T) ∧ 0 ≤ x ∧ x < (n : Int) ∧ a ≤ x.toNat ∧ x.toNat ≤ b ∧ b < n := by
  obtain ⟨h0, hx⟩ := h r (sAg.rf _ _)
  unfold sIx at e
  cases c : sB E.P S.iv l with
  | none => rw [c] at e; cases e
  | some g =>
    rw [c] at e
    have hb := sB_ok h0.1 h0.2.2 c
    simp only at e
    by_cases c1 : 0 ≤ g.1 ∧ g.2 < (n : Int)
    · rw [if_pos c1] at e
      cases e
      exact ⟨S, g.1.toNat, g.2.toNat, rfl, sEqv.rf S, fun r' q => (h r' q).1, by omega, by omega, by omega, by omega, by omega⟩
    · rw [if_neg c1] at e
      obtain ⟨iv, e1, k1⟩ := sProp_ok h0.2.2 S.li S.iv h0.2.1 h0.1
      rw [e1] at e
      simp only at e
      have hT : ∀ r', sAg S.nx r r' → sFx E.P r' (sIvs S iv) := fun r' q => by
        have h1 := (h r' q).1
        obtain ⟨iv2, e2, k2⟩ := sProp_ok h1.2.2 S.li S.iv h1.2.1 h1.1
        cases e1.symm.trans e2
        exact sIvs_ok h1 k2
      cases c2 : sB E.P iv l with
      | none => rw [c2] at e; cases e
      | some h' =>
        rw [c2] at e
        have hb2 := sB_ok k1 h0.2.2 c2
        simp only at e
        by_cases c3 : ((decide (0 ≤ h'.1) || sLeq E.P (sIvs S iv) (sMul (-1) l)) && (decide (h'.2 < (n : Int)) || sLeq E.P (sIvs S iv) (sAdd l (sK (1 - (n : Int)))))) = true
        · rw [if_pos c3] at e
          cases e
          simp only [Bool.and_eq_true, Bool.or_eq_true, decide_eq_true_eq] at c3
          have hF := hT r (sAg.rf _ _)
          have z1 : 0 ≤ x := by
            rcases c3.1 with z | z
            · omega
            · have := sLeq_ok hF.1 hF.2.2 hF.2.1 z
              rw [sEv_mul] at this
              omega
          have z2 : x < (n : Int) := by
            rcases c3.2 with z | z
            · omega
            · have := sLeq_ok hF.1 hF.2.2 hF.2.1 z
              rw [sEv_add, sEv_K] at this
              omega
          refine ⟨_, _, _, rfl, ⟨rfl, rfl, rfl, rfl, rfl, rfl⟩, hT, z1, z2, ?_, ?_, ?_⟩
          · unfold iMax
            split <;> omega
          · unfold iMin
            split <;> omega
          · unfold iMin
            split <;> omega
        · rw [if_neg c3] at e
          cases e
end MEMW
