/-! THE ENGINE IS SOUND: around a loop -/
theorem sW_weak {X : gX} {P : sP} {F : Nat → Int → gM → Int} {n0 n1 : Nat} {r0 r1 : Nat → Int} {T : sS} (hW : sW X P F n0 r0 T) (hn : n0 ≤ n1) (ha : sAg n0 r0 r1) : sW X P F n1 r1 T :=
  fun r lv sv mu h1 h2 hS => hW r lv sv mu (Nat.le_trans hn h1) (ha.tr h2 hn) hS
theorem aFind_none {α : Type} : ∀ (l : List (Nat × α)) (k : Nat), (∀ q ∈ l, k ≠ q.1) → aFind l k = none
  | [], _, _ => rfl
  | q :: t, k, h => by
    simp only [aFind]
    rw [if_neg (by rw [Nat.beq_eq]; exact fun e => h q List.mem_cons_self e.symm)]
    exact aFind_none t k (fun q' hq => h q' (List.mem_cons_of_mem _ hq))
theorem sLook_drop : ∀ (me : sMem) (n p : Nat), (∀ e ∈ me.take n, ¬ (e.1 ≤ p ∧ p ≤ e.2.1)) → sLook me p = sLook (me.drop n) p
  | [], n, p, _ => by rw [List.drop_nil]
  | e :: t, 0, p, _ => rfl
  | e :: t, n + 1, p, h => by
    rw [List.take_succ_cons] at h
    rw [sLook_cons, if_neg (h e List.mem_cons_self), List.drop_succ_cons]
    exact sLook_drop t n p (fun e' he => h e' (List.mem_cons_of_mem _ he))
theorem sIn_out {ml : List (Nat × Nat × Option (Int × Int))} {a b p : Nat} (h : sIn ml a b = true) (ho : sOut ml p) : ¬ (a ≤ p ∧ p ≤ b) := by
  unfold sIn at h
  obtain ⟨q, hq, h2⟩ := List.any_eq_true.mp h
  simp only [Bool.and_eq_true, Nat.ble_eq] at h2
  have := ho q hq
  omega
section LOOP
variable {X : gX} {P : sP} {F : Nat → Int → gM → Int}
/-- what a state that is back says, at a frame of its own -/
theorem back_ok {H : sH} {S S1 B : sS} (eH : sHead P H S = some S1) (hb : sBack P H S S1 B = true) {r : Nat → Int} {lv : List (Nat × gV)} {sv : List gV} {mu : gM} (hD : sD P r S lv sv mu) {r1 : Nat → Int} {lv1 : List (Nat × gV)} {mu1 : gM} (ha1 : sAg S.nx r r1) (hD1 : sD P r1 S1 lv1 sv mu1) {r2 : Nat → Int} {lv2 : List (Nat × gV)} {sv2 : List gV} {mu2 : gM} (ha2 : sAg S1.nx r1 r2) (hB : sSat0 P r2 B lv2 mu2 ∧ sRelS r2 B.st sv2) :
    sv2 = sv ∧ 0 ≤ gMs S1.lv lv1 mu1 H.2.2.2.1 + H.2.2.1 ∧ ∃ r3 lv3, sAg S.nx r r3 ∧ sD P r3 S1 lv3 sv mu2 ∧ (∀ q ∈ lv3, q ∈ lv2) ∧ gMs S1.lv lv3 mu2 H.2.2.2.1 + 1 ≤ gMs S1.lv lv1 mu1 H.2.2.2.1 := by
  obtain ⟨h1, h2, h3, h4, h5⟩ := head_same eH
  have ha : sAg S.nx r r2 := ha1.tr ha2 h1
  unfold sBack at hb
  simp only [Bool.and_eq_true, Nat.ble_eq] at hb
  obtain ⟨⟨b0, b1⟩, b2, b3, b4, b5, b6, b7, b8⟩ := hb
  obtain ⟨hS0, hB1⟩ := hB
  have e1 : sv2 = sv := by
    rw [asEq_ok _ _ b1, h3] at hB1
    exact relS_det _ _ _ hB1 (hD r2 ha).2
  have e4 := mEq_ok _ _ b4
  have val : Nat → gV := fun k => (gAtL B.lv lv2 k).getD gN
  have hval : ∀ h ∈ H.1, ∃ v, gAtL B.lv lv2 h.1 = some v ∧ hvOK h v ∧ (∀ q ∈ S.lv, q.1 = h.1 → sKd q.2 = gKd v) := fun h hh => by
    have c := List.all_eq_true.mp b0 h hh
    unfold sBackH at c
    split at c
    · rename_i l c1
      simp only [Bool.and_eq_true, List.all_eq_true, Bool.or_eq_true, Bool.not_eq_true', Nat.beq_eq] at c
      obtain ⟨v, v1, v2, v3⟩ := gAtL_ok _ _ _ _ r2 hS0.1 c1
      rcases v with (x | x) | x
      · obtain ⟨t, t1, t2, t3⟩ := sInDv_ok hS0.2.2 c.1
        refine ⟨_, v1, ⟨t, t2, t3, (show x.toInt = sEv r2 l from v3).trans t1⟩, fun q hq e => ?_⟩
        rcases c.2 q hq with z | z
        · rw [← Bool.not_eq_true, Nat.beq_eq] at z
          exact absurd e z
        · exact z
      · cases v3
      · cases v3
    · rename_i l c1
      simp only [Bool.and_eq_true, List.all_eq_true, Bool.or_eq_true, Bool.not_eq_true', Nat.beq_eq] at c
      obtain ⟨v, v1, v2, v3⟩ := gAtL_ok _ _ _ _ r2 hS0.1 c1
      rcases v with (x | x) | x
      · cases v3
      · obtain ⟨t, t1, t2, t3⟩ := sInDv_ok hS0.2.2 c.1
        refine ⟨_, v1, ⟨t, t2, t3, (show x.toInt = sEv r2 l from v3).trans t1⟩, fun q hq e => ?_⟩
        rcases c.2 q hq with z | z
        · rw [← Bool.not_eq_true, Nat.beq_eq] at z
          exact absurd e z
        · exact z
      · cases v3
    · cases c
  obtain ⟨r3, lv3, k1, k2, k3⟩ := head_to (mu1 := mu2) hD eH (fun k => (gAtL B.lv lv2 k).getD gN)
    (fun h hh => by
      obtain ⟨v, v1, v2, v3⟩ := hval h hh
      rw [v1]
      exact v2)
    (fun h hh => by
      obtain ⟨v, v1, v2, v3⟩ := hval h hh
      rw [v1]
      exact v3)
    (fun p g hg => by
      refine ⟨(hS0.2.1 p g hg).1, fun ho r' hr' => ?_⟩
      have e : sLook B.me p = sLook S.me p := by
        rw [sLook_drop B.me (B.me.length - S1.me.length) p (fun e he => sIn_out (List.all_eq_true.mp b5 e he) ho), e4]
        exact h5 p ho
      have q1 := (hS0.2.1 p g hg).2
      have q2 := ((hD r2 ha).1.2.1 p g hg).2
      have q3 := ((hD r' hr').1.2.1 p g hg).2
      rw [e] at q1
      unfold sSays
      cases c : sLook S.me p with
      | none =>
        rw [c] at q1 q2 q3
        simp only at q1 q2 q3 ⊢
        omega
      | some o =>
        cases o with
        | none => trivial
        | some l =>
          rw [c] at q1 q2 q3
          simp only at q1 q2 q3 ⊢
          omega)
    (fun e he h hh => by
      have c := List.all_eq_true.mp b6 e he
      unfold sBackM at c
      rw [hh] at c
      exact sValIn_ok hS0.2.1 hS0.2.2 c)
    (fun p hp l hl => by
      have c := List.all_eq_true.mp b7 p hp
      unfold sBackP at c
      rw [hl] at c
      simp only at c
      cases c2 : sVal P B p with
      | none => rw [c2] at c; cases c
      | some m =>
        rw [c2] at c
        have q := sLeq_ok hS0.2.2.1 hS0.2.2.2.2 hS0.2.2.2.1 c
        rw [sEv_sub, ← sVal_ok' hS0.2.1 c2, ← sVal_ok' (hD r2 ha).1.2.1 hl] at q
        omega)
  have h0 := (k2 r3 (sAg.rf _ _)).1
  have hz : ∀ x ∈ S1.lv.zip lv3, gAtL B.lv lv2 x.1.1 = some x.2.2 ∧ x.2 ∈ lv2 := fun x hx => by
    have hxr := relL_zip _ _ h0.1 x hx
    rcases k3 x hx with ⟨h, hh, m1, m2⟩ | ⟨m1, m2⟩
    · obtain ⟨v, v1, v2, v3⟩ := hval h hh
      have e2 : (gAtL B.lv lv2 h.1).getD gN = v := by rw [v1]; rfl
      simp only [e2] at m2
      have mem : (h.1, v) ∈ lv2 := by
        have c := List.all_eq_true.mp b0 h hh
        unfold sBackH at c
        split at c
        · rename_i l c1
          obtain ⟨w, w1, w2, w3⟩ := gAtL_ok _ _ _ _ r2 hS0.1 c1
          cases v1.symm.trans w1
          exact w2
        · rename_i l c1
          obtain ⟨w, w1, w2, w3⟩ := gAtL_ok _ _ _ _ r2 hS0.1 c1
          cases v1.symm.trans w1
          exact w2
        · cases c
      rw [m1, m2]
      exact ⟨v1, mem⟩
    · have c := List.all_eq_true.mp b2 x.1 hxr.1
      unfold sBackL at c
      rw [aFind_none _ _ m2] at c
      simp only at c
      cases c2 : sLk B.lv x.1.1 with
      | none => rw [c2] at c; cases c
      | some a =>
        rw [c2] at c
        have e := aEq_ok c
        obtain ⟨w, w1, w2, w3⟩ := gAtL_ok _ _ _ _ r2 hS0.1 c2
        have q := relL_zip _ _ (hD r2 ha).1.1 x m1
        rw [e] at w3
        have e3 := sRel_det w3 q.2.2
        rw [e3] at w1 w2
        refine ⟨w1, ?_⟩
        have e5 : x.2 = (x.1.1, x.2.2) := by rw [q.2.1]
        rw [e5]
        exact w2
  have hat : ∀ i v, gAtL S1.lv lv3 i = some v → gAtL B.lv lv2 i = some v := fun i v hv => by
    obtain ⟨x, x1, x2, x3⟩ := gAtL_zip _ _ _ _ hv
    rw [← x2, ← x3]
    exact (hz x x1).1
  have h01 := (hD1 r2 ha2).1
  split at b8
  · rename_i m m' c1 c2
    simp only [Bool.and_eq_true] at b8
    have q1 := sMeas_ok h01 _ _ c1
    have q2 := sMeas_ok hS0 _ _ c2
    have q3 := gMs_eq h0 hat _ _ c1
    have q4 := sLeq_ok hS0.2.2.1 hS0.2.2.2.2 hS0.2.2.2.1 b8.2
    rw [sEv_add, sEv_sub, sEv_K, q1, q2] at q4
    have q5 : 0 ≤ sEv r2 m + H.2.2.1 := by
      have c := b8.1
      cases c3 : sB P S1.iv (sAdd m (sK H.2.2.1)) with
      | none => rw [c3] at c; cases c
      | some g =>
        rw [c3] at c
        simp only [decide_eq_true_eq] at c
        have := sB_ok h01.2.2.1 h01.2.2.2.2 c3
        rw [sEv_add, sEv_K] at this
        omega
    refine ⟨e1, by omega, r3, lv3, k1, k2, fun q hq => ?_, by omega⟩
    obtain ⟨a, hqa⟩ := relL_mem _ _ h0.1 q hq
    exact (hz _ hqa).2
  · cases b8
theorem loop_ok {H : sH} {S S1 : sS} (eH : sHead P H S = some S1) {R : List sS} {n0 : Nat} {r0 : Nat → Int}
    (hstep : ∀ (n1 : Nat) (r1 : Nat → Int), (∀ T ∈ R, sW X P F n1 r1 T) → sW X P F n1 r1 S1)
    (hback : R.all (fun B => !(Nat.beq B.pc S1.pc) || sBack P H S S1 B) = true)
    (hout : ∀ T ∈ R.filter (fun B => !(Nat.beq B.pc S1.pc)), sW X P F n0 r0 T) : sW X P F n0 r0 S := by
  intro r lv sv mu hn hr hS
  obtain ⟨h1, h2, h3, h4, h5⟩ := head_same eH
  have hD : sD P r S lv sv mu := fun r' q => ⟨⟨(hS r' q).1.1, (hS r' q).1.2.1, (hS r' q).1.2.2.1⟩, (hS r' q).2⟩
  have main : ∀ (N : Nat) (r1 : Nat → Int) (lv1 : List (Nat × gV)) (mu1 : gM), sAg S.nx r r1 → sD P r1 S1 lv1 sv mu1 → gMs S1.lv lv1 mu1 H.2.2.2.1 + H.2.2.1 < (N : Int) → gG X S1.pc lv1 sv mu1 := by
    intro N
    induction N with
    | zero =>
      intro r1 lv1 mu1 ha1 hD1 hN
      refine hstep S1.nx r1 (fun T hT => ?_) r1 lv1 sv mu1 (Nat.le_refl _) (sAg.rf _ _) (fun r' q => ⟨⟨(hD1 r' q).1.1, (hD1 r' q).1.2.1, (hD1 r' q).1.2.2, by rw [h4]; exact fun q hq => absurd hq List.not_mem_nil⟩, (hD1 r' q).2⟩)
      by_cases c : T.pc = S1.pc
      · intro r2 lv2 sv2 mu2 hn2 hr2 hS2
        have c2 := List.all_eq_true.mp hback T hT
        simp only [Bool.or_eq_true, Bool.not_eq_true'] at c2
        rcases c2 with c2 | c2
        · rw [← Bool.not_eq_true, Nat.beq_eq] at c2
          exact absurd c c2
        · have hB := hS2 r2 (sAg.rf _ _)
          have := back_ok eH c2 hD ha1 hD1 hr2 ⟨⟨hB.1.1, hB.1.2.1, hB.1.2.2.1⟩, hB.2⟩
          omega
      · exact sW_weak (hout T (List.mem_filter.mpr ⟨hT, by rw [Bool.not_eq_true', ← Bool.not_eq_true, Nat.beq_eq]; exact c⟩)) (Nat.le_trans hn h1) (hr.tr ha1 hn)
    | succ N ih =>
      intro r1 lv1 mu1 ha1 hD1 hN
      refine hstep S1.nx r1 (fun T hT => ?_) r1 lv1 sv mu1 (Nat.le_refl _) (sAg.rf _ _) (fun r' q => ⟨⟨(hD1 r' q).1.1, (hD1 r' q).1.2.1, (hD1 r' q).1.2.2, by rw [h4]; exact fun q hq => absurd hq List.not_mem_nil⟩, (hD1 r' q).2⟩)
      by_cases c : T.pc = S1.pc
      · intro r2 lv2 sv2 mu2 hn2 hr2 hS2
        have c2 := List.all_eq_true.mp hback T hT
        simp only [Bool.or_eq_true, Bool.not_eq_true'] at c2
        rcases c2 with c2 | c2
        · rw [← Bool.not_eq_true, Nat.beq_eq] at c2
          exact absurd c c2
        · have hB := hS2 r2 (sAg.rf _ _)
          obtain ⟨e1, e2, r3, lv3, e3, e4, e5, e6⟩ := back_ok eH c2 hD ha1 hD1 hr2 ⟨⟨hB.1.1, hB.1.2.1, hB.1.2.2.1⟩, hB.2⟩
          rw [e1, c]
          exact gG_sub e5 (ih r3 lv3 mu2 e3 e4 (by omega))
      · exact sW_weak (hout T (List.mem_filter.mpr ⟨hT, by rw [Bool.not_eq_true', ← Bool.not_eq_true, Nat.beq_eq]; exact c⟩)) (Nat.le_trans hn h1) (hr.tr ha1 hn)
  obtain ⟨r1, lv1, k1, k2, k3⟩ := head_in hD eH
  have g := main ((gMs S1.lv lv1 mu H.2.2.2.1 + H.2.2.1).toNat + 1) r1 lv1 mu k1 k2 (by omega)
  rw [h2] at g
  exact gG_sub k3 g
end LOOP
