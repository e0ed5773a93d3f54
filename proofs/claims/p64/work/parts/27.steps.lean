/-! THE ENGINE IS SOUND: steps that call -/
/-- what a call of see() gives back: nothing moves, and it is F's -/
def sSeeQ (F : Nat → Int → gM → Int) (av : List gV) (mu : gM) (ret : Option gV) (mu' : gM) : Prop := mu' = mu ∧ ∃ o i z, av = [.inr o, gI i] ∧ ret = some (gI z) ∧ z.toInt = F 2000000 i.toInt mu
/-- arraycopy of longs at a call of this frame -/
def sGivCopy (X : gX) (P : sP) (F : Nat → Int → gM → Int) (idx : Nat) : Prop :=
  ∀ (pc : Nat) (lv : List (Nat × gV)) (sv : List gV) (mu : gM) (o d a b m1 m2 : Nat) (i k n : Int32), decode (gXy X) pc = .ok (.invokestatic idx, 3) → (gXG X)[o]? = some (.inr (.inl (3, a, m1))) → (gXG X)[d]? = some (.inr (.inl (3, b, m2))) → gProf P mu → (∀ p g, b ≤ p → p < b + m2 → spAt P p = some g → g.1 ≤ i64l ∧ i64h ≤ g.2) → 0 ≤ n.toInt → 0 ≤ k.toInt → 0 ≤ i.toInt → i.toInt + n.toInt ≤ (m1 : Int) → k.toInt + n.toInt ≤ (m2 : Int) → (sv.map gcat).sum ≤ 8 →
    (∀ mu', gProf P mu' → (∀ p, ¬ (b ≤ p ∧ p < b + m2) → mu' p = mu p) → gG X (pc + 3) lv sv mu') → gG X pc lv (gI n :: gI k :: gR d :: gI i :: gR o :: sv) mu
def sCallsOK (X : gX) (F : Nat → Int → gM → Int) (Y : sY1) : Prop := ∀ idx e, aFind Y.K idx = some e →
  (e.1 = 0 → ∀ c ∈ e.2.2, sGiv X Y.E.P F Y.M (.invokevirtual idx) c.2) ∧ (e.1 = 1 → ∀ c ∈ e.2.2, sGiv X Y.E.P F Y.M (.invokestatic idx) c.2) ∧ (e.1 = 2 → sGivCopy X Y.E.P F idx) ∧ (e.1 = 3 → ∀ c ∈ e.2.2, sGivQ X Y.E.P F Y.M (.invokevirtual idx) (sSeeQ F) c.2)
section STEPS
variable {X : gX} {F : Nat → Int → gM → Int} {Y : sY1} {n0 : Nat} {r0 : Nat → Int} {S : sS} {L : List sS}
theorem sCopy_ok (hE : sEnv X Y.E F Y.C) {idx : Nat} (hd : decode (gXy X) S.pc = .ok (.invokestatic idx, 3)) (hc : sGivCopy X Y.E.P F idx) (e : sCopy Y.E S = some L) (hW : ∀ T ∈ L, sW X Y.E.P F n0 r0 T) : sW X Y.E.P F n0 r0 S := by
  intro r lv sv mu hn hr hS
  obtain ⟨pc, sl, st, me, iv, li, nx, mm⟩ := S
  unfold sCopy at e
  split at e
  · rename_i n k d i o st' est
    have est' : st = .inl (.inl n) :: .inl (.inl k) :: .inr (some d) :: .inl (.inl i) :: .inr (some o) :: st' := est
    subst est'
    obtain ⟨zn, sv, rfl, h1, an⟩ := popI hS
    obtain ⟨zk, sv, rfl, h2, ak⟩ := popI h1
    obtain ⟨sv, rfl, h3⟩ := popR h2
    obtain ⟨zi, sv, rfl, h4, ai⟩ := popI h3
    obtain ⟨sv, rfl, h5⟩ := popR h4
    split at e
    · rename_i x1 m1 b m2 g1 g2
      cases cp : sProp Y.E.P (sS.li (pc, sl, .inl (.inl n) :: .inl (.inl k) :: .inr (some d) :: .inl (.inl i) :: .inr (some o) :: st', me, iv, li, nx, mm)) (sS.iv (pc, sl, .inl (.inl n) :: .inl (.inl k) :: .inr (some d) :: .inl (.inl i) :: .inr (some o) :: st', me, iv, li, nx, mm)) with
      | none =>
        have h0 := (h5 r (sAg.rf _ _)).1.2.2.1
        obtain ⟨iv', e1, -⟩ := sProp_ok h0.2.2 _ _ h0.2.1 h0.1
        rw [e1] at cp
        cases cp
      | some iv' =>
        rw [cp] at e
        simp only at e
        have hT : ∀ r', sAg nx r r' → sIvOK r' iv' := fun r' q => by
          have h0 := (h5 r' q).1.2.2.1
          obtain ⟨iv2, e1, k1⟩ := sProp_ok h0.2.2 _ _ h0.2.1 h0.1
          cases e1.symm.trans cp
          exact k1
        split at e
        · rename_i c
          simp only [Bool.and_eq_true, Nat.ble_eq] at c
          obtain ⟨⟨⟨c1, c2, c3, c4, c5⟩, c6⟩, c7⟩ := c
          cases e
          have h0 := (h5 r (sAg.rf _ _)).1.2.2.1
          have rf := sAg.rf nx r
          have hF : sFx Y.E.P r (sIvs (pc, sl, .inl (.inl n) :: .inl (.inl k) :: .inr (some d) :: .inl (.inl i) :: .inr (some o) :: st', me, iv, li, nx, mm) iv') := ⟨hT r rf, h0.2.1, h0.2.2⟩
          have q1 := sLeq_ok hF.1 hF.2.2 hF.2.1 c1
          have q2 := sLeq_ok hF.1 hF.2.2 hF.2.1 c2
          have q3 := sLeq_ok hF.1 hF.2.2 hF.2.1 c3
          have q4 := sLeq_ok hF.1 hF.2.2 hF.2.1 c4
          have q5 := sLeq_ok hF.1 hF.2.2 hF.2.1 c5
          rw [sEv_mul, ← an r rf] at q1
          rw [sEv_mul, ← ak r rf] at q2
          rw [sEv_mul, ← ai r rf] at q3
          rw [sEv_add, sEv_add, sEv_K, ← ai r rf, ← an r rf] at q4
          rw [sEv_add, sEv_add, sEv_K, ← ak r rf, ← an r rf] at q5
          refine hc pc lv sv mu o d x1 b m1 m2 zi zk zn hd (hE.1.1 o _ g1) (hE.1.1 d _ g2) (fun p g hp => ((h5 r rf).1.2.1 p g hp).1) (fun p g w1 w2 hp => by
            obtain ⟨qq, z1, z2, z3, z4⟩ := hE.1.2.2.1 p g hp
            have := spTakes_ok _ _ _ _ _ c7 qq z1 p w1 (by omega) z2 z3
            rw [z4] at this
            exact this) (by omega) (by omega) (by omega) (by omega) (by omega) (by rw [← relS_cat _ _ (h5 r rf).2]; exact c6) (fun mu' hp' hk => ?_)
          refine hW _ List.mem_cons_self r lv sv mu' hn hr (fun r' q => ?_)
          obtain ⟨⟨a1, a2, a3, a4⟩, a5⟩ := h5 r' q
          refine ⟨⟨a1, fun p g hp => ⟨hp' p g hp, ?_⟩, ⟨hT r' q, a3.2.1, a3.2.2⟩, fun m hm => absurd hm List.not_mem_nil⟩, a5⟩
          show (match sLook ((b, b + m2 - 1, none) :: me) p with | some (some l) => mu' p = sEv r' l | some none => True | none => mu' p = r' p)
          rw [sLook_cons]
          by_cases cc : b ≤ p ∧ p ≤ b + m2 - 1
          · rw [if_pos cc]
            trivial
          · rw [if_neg cc, hk p (by omega)]
            exact (a2 p g hp).2
        · cases e
    · cases e
  · cases e
theorem sSee_ok {idx : Nat} {cs : List (Nat × sC)} {i : sL} {o : Option Nat} {st : List sA} {R : List sS} (h01 : ∀ mu, ∀ j ∈ sGh, 0 ≤ F (sGk j) 0 mu ∧ F (sGk j) 0 mu ≤ 1) (hd : decode (gXy X) S.pc = .ok (.invokevirtual idx, 3)) (hc : ∀ c ∈ cs, sGivQ X Y.E.P F Y.M (.invokevirtual idx) (sSeeQ F) c.2) (est : S.st = .inl (.inl i) :: .inr o :: st) (eR : sCallC Y S 2 cs = some R)
    (hW : (∃ v, sKnow S.mm 2000000 0 i = some v ∧ sW X Y.E.P F n0 r0 (sPush S (S.pc + 3) st (.inl (.inl v)))) ∨ ∀ T ∈ R.map (sSeen i), sW X Y.E.P F n0 r0 T) : sW X Y.E.P F n0 r0 S := by
  intro r lv sv mu hn hr hS
  obtain ⟨c, p1, p2, p3, p4, p5, p6⟩ := sCallC_at (X := X) h01 eR hS
  have hS2 := hS
  rw [est] at hS2
  obtain ⟨zi, sv1, rfl, h1, ai⟩ := popI hS2
  obtain ⟨sv2, rfl, h2⟩ := popR h1
  refine hc c p1 S.pc lv [.inr o, gI zi] sv2 mu hd p2 p3 p4 p5 (fun x hx ret mu' hq hs => ?_)
  obtain ⟨e1, o', i', z, e2, e3, e4⟩ := hs
  have e5 : zi = i' := by
    injection e2 with _ e6
    injection e6 with e7 _
    injection e7 with e8
    injection e8
  subst e5
  subst e3
  rcases hW with ⟨v, k1, k2⟩ | hW
  · rw [e1]
    refine W_push k2 hn hr h2 (fun r' q => ?_)
    have m := (hS r' q).1.2.2.2 _ (sKnow_mem _ _ _ _ _ k1)
    simp only at m
    rw [if_neg (by omega), ← ai r' q] at m
    exact e4.trans m
  · refine p6 x hx (some (gI z)) mu' hq S.nx r (fun st' mu'' => ∃ z sv3, st' = gI z :: sv3 ∧ z.toInt = F 2000000 zi.toInt mu'') (Nat.le_refl _) (sAg.rf _ _) (fun T hT r2 lv2 st2 mu2 b1 b2 b3 b4 => ?_) ⟨z, _, rfl, by rw [e1]; exact e4⟩
    obtain ⟨z2, sv3, rfl, b5⟩ := b4
    have hT2 := hW (sSeen i T) (List.mem_map.mpr ⟨T, hT, rfl⟩)
    have fin : (∃ v s, T.st = .inl (.inl v) :: s) ∨ sSeen i T = T := by
      unfold sSeen
      split
      · rename_i v s c3
        exact .inl ⟨v, s, c3⟩
      · exact .inr rfl
    rcases fin with ⟨v, s, c3⟩ | c3
    · have es : sSeen i T = (T.pc, T.lv, T.st, T.me, T.iv, T.li, T.nx, (2000000, 0, i, v) :: T.mm) := by
        unfold sSeen
        rw [c3]
      rw [es] at hT2
      refine hT2 r2 lv2 _ mu2 (Nat.le_trans hn b1) (hr.tr b2 hn) (fun r' q => ?_)
      obtain ⟨⟨d1, d2, d3, d4⟩, d5⟩ := b3 r' q
      refine ⟨⟨d1, d2, d3, fun m hm => ?_⟩, d5⟩
      rcases List.mem_cons.mp hm with rfl | hm
      · have d6 : sRelS r' T.st (gI z2 :: sv3) := d5
        rw [c3] at d6
        have d7 : z2.toInt = sEv r' v := d6.1
        simp only
        rw [if_neg (by omega), ← ai r' (b2.tr q b1), ← d7, b5]
      · exact d4 m hm
    · rw [c3] at hT2
      exact hT2 r2 lv2 _ mu2 (Nat.le_trans hn b1) (hr.tr b2 hn) b3
theorem sStep_ok (h : gOK X) (hE : sEnv X Y.E F Y.C) (h01 : ∀ mu, ∀ j ∈ sGh, 0 ≤ F (sGk j) 0 mu ∧ F (sGk j) 0 mu ≤ 1) (hK : sCallsOK X F Y) : sStepOK X F Y := by
  intro S ins len L n1 r1 hc e hW
  have hd := hE.2.2.2.2.1 _ _ hc
  have hfit := hE.2.2.2.2.2 _ _ hc
  have call : ∀ (i kind : Nat), decode (gXy X) S.pc = .ok ((if kind = 0 then Instr.invokevirtual i else Instr.invokestatic i), 3) → kind < 2 → sCall Y S i kind = some L → sW X Y.E.P F n1 r1 S := by
    intro i kind hd hk e
    unfold sCall at e
    split at e
    · cases e
    · rename_i q cq
      obtain ⟨k0, k1, k2, k3⟩ := hK _ _ cq
      split at e
      · rename_i c
        simp only [Bool.and_eq_true, Nat.beq_eq] at c
        rw [if_neg (by omega)] at hd
        exact sCopy_ok hE hd (k2 c.1) e hW
      · split at e
        · rename_i c
          simp only [Bool.and_eq_true, Nat.beq_eq] at c
          rw [if_pos c.2] at hd
          split at e
          · rename_i j o st est
            split at e
            · cases e
            · rename_i R eR
              split at e
              · rename_i v cv
                cases e
                exact sSee_ok h01 hd (k3 c.1) est eR (.inl ⟨v, cv, hW _ List.mem_cons_self⟩)
              · cases e
                exact sSee_ok h01 hd (k3 c.1) est eR (.inr hW)
          · cases e
        · split at e
          · rename_i c
            rw [Nat.beq_eq] at c
            by_cases c0 : kind = 0
            · rw [if_pos c0] at hd
              exact sCallC_ok h01 hd (k0 (by omega)) e hW
            · rw [if_neg c0] at hd
              exact sCallC_ok h01 hd (k1 (by omega)) e hW
          · cases e
  cases ins with
  | invokevirtual i =>
    have q : len = 3 := eFit_len hfit (by intro z; cases z)
    subst q
    exact call i 0 hd (by omega) e
  | invokestatic i =>
    have q : len = 3 := eFit_len hfit (by intro z; cases z)
    subst q
    exact call i 1 hd (by omega) e
  | _ => exact sStep1_ok h hE hc e hW
end STEPS
