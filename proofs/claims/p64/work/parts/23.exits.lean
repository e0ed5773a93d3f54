/-! THE ENGINE IS SOUND: a contract's exit, taken at a call -/
/-- a valuation of a contract's symbols, at the method's start -/
def sIn0 (M : Nat) (F : Nat → Int → gM → Int) (av : List gV) (mu : gM) (rho : Nat → Int) : Prop :=
  (∀ k, k < M → rho k = mu k) ∧ (∀ j v, av[j]? = some v → j < 9 → (match v with | .inl (.inl z) => rho (M + j) = z.toInt | .inl (.inr z) => rho (M + j) = z.toInt | _ => True)) ∧ (∀ i j, sGh[i]? = some j → rho (M + 9 + i) = F (sGk j) 0 mu)
/-- the exit holds of what was answered, and of the memory -/
def sXOK (M : Nat) (P : sP) (F : Nat → Int → gM → Int) (av : List gV) (mu : gM) (x : sX) (ret : Option gV) (mu' : gM) : Prop :=
  ∃ rho : Nat → Int, sIn0 M F av mu rho ∧ (match x.1, ret with | none, none => True | some a, some v => sRel rho a v | _, _ => False) ∧ (∀ p g, spAt P p = some g → g.1 ≤ mu' p ∧ mu' p ≤ g.2) ∧
    (∀ p, match sLook x.2.1 p with | some (some l) => mu' p = sEv rho l | some none => True | none => mu' p = mu p) ∧ sIvOK rho x.2.2.1 ∧ sLiOK rho x.2.2.2.1
def sKey (f : Nat → Option sL) (rho r' : Nat → Int) : Prop := ∀ k l, f k = some l → sEv r' l = rho k
theorem sSubT_ok {f : Nat → Option sL} {rho r' : Nat → Int} (h : sKey f rho r') : ∀ (t : List (Nat × Int)) (m : sL), sSubT f t = some m → sEv r' m = sev rho t
  | [], m, e => by
    cases e
    rw [sEv_K]
    rfl
  | q :: t, m, e => by
    simp only [sSubT] at e
    split at e
    · rename_i l n c1 c2
      cases e
      simp only [sev]
      rw [sEv_add, sEv_mul, sSubT_ok h t n c2, h _ _ c1]
    · cases e
theorem sSubL_ok {f : Nat → Option sL} {rho r' : Nat → Int} (h : sKey f rho r') {l m : sL} (e : sSubL f l = some m) : sEv r' m = sEv rho l := by
  unfold sSubL at e
  split at e
  · rename_i n c
    cases e
    rw [sEv_add, sEv_K, sSubT_ok h _ _ c]
    rfl
  · cases e
theorem sSubA_ok {f : Nat → Option sL} {rho r' : Nat → Int} (h : sKey f rho r') {a b : sA} {v : gV} (e : sSubA f a = some b) (hv : sRel rho a v) : sRel r' b v := by
  rcases a with (a | a) | a
  · simp only [sSubA] at e
    cases c : sSubL f a with
    | none => rw [c] at e; cases e
    | some m =>
      rw [c] at e
      cases e
      rcases v with (v | v) | v
      · show v.toInt = sEv r' m
        rw [sSubL_ok h c]
        exact hv
      · cases hv
      · cases hv
  · simp only [sSubA] at e
    cases c : sSubL f a with
    | none => rw [c] at e; cases e
    | some m =>
      rw [c] at e
      cases e
      rcases v with (v | v) | v
      · cases hv
      · show v.toInt = sEv r' m
        rw [sSubL_ok h c]
        exact hv
      · cases hv
  · cases e
    rcases v with (v | v) | v
    · cases hv
    · cases hv
    · exact hv
theorem sSubM_ok {f : Nat → Option sL} {rho r' : Nat → Int} (h : sKey f rho r') : ∀ (me me' : sMem) (p : Nat), sSubM f me = some me' → (match sLook me p with | none => sLook me' p = none | some none => sLook me' p = some none | some (some l) => ∃ m, sLook me' p = some (some m) ∧ sEv r' m = sEv rho l)
  | [], me', p, e => by
    cases e
    rfl
  | q :: t, me', p, e => by
    simp only [sSubM] at e
    cases c1 : sSubM f t with
    | none => rw [c1] at e; cases e
    | some t' =>
      rw [c1] at e
      simp only at e
      have ih := sSubM_ok h t t' p c1
      rw [sLook_cons]
      cases c2 : q.2.2 with
      | none =>
        rw [c2] at e
        cases e
        by_cases c : q.1 ≤ p ∧ p ≤ q.2.1
        · rw [if_pos c]
          simp only
          rw [sLook_cons, if_pos c]
        · rw [if_neg c, sLook_cons, if_neg c]
          exact ih
      | some l =>
        rw [c2] at e
        simp only at e
        cases c3 : sSubL f l with
        | none => rw [c3] at e; cases e
        | some m =>
          rw [c3] at e
          cases e
          by_cases c : q.1 ≤ p ∧ p ≤ q.2.1
          · rw [if_pos c]
            simp only
            refine ⟨m, ?_, sSubL_ok h c3⟩
            rw [sLook_cons, if_pos c]
          · rw [if_neg c, sLook_cons, if_neg c]
            exact ih
theorem sLook_app : ∀ (a b : sMem) (p : Nat), sLook (a ++ b) p = (match sLook a p with | some o => some o | none => sLook b p)
  | [], _, _ => rfl
  | q :: t, b, p => by
    rw [List.cons_append, sLook_cons, sLook_cons]
    by_cases c : q.1 ≤ p ∧ p ≤ q.2.1
    · rw [if_pos c, if_pos c]
    · rw [if_neg c, if_neg c]
      exact sLook_app t b p
def retS : Option gV → List gV → List gV
  | none, sv => sv
  | some v, sv => v :: sv
section EXITS
variable {X : gX} {P : sP} {F : Nat → Int → gM → Int} {M : Nat}
theorem sLe_all {S : sS} {l : sL} {r1 : Nat → Int} (hF : ∀ r', sAg S.nx r1 r' → sFx P r' S) (hl : ∀ r', sAg S.nx r1 r' → sEv r' l ≤ 0) : ∃ T, sLe P S l = some T ∧ sEqv S T ∧ ∀ r', sAg S.nx r1 r' → sFx P r' T := by
  obtain ⟨T, e1, k1, q1⟩ := sLe_ok (hF r1 (sAg.rf _ _)) (hl r1 (sAg.rf _ _))
  refine ⟨T, e1, q1, fun r' h => ?_⟩
  obtain ⟨T', e2, k2, q2⟩ := sLe_ok (hF r' h) (hl r' h)
  cases e1.symm.trans e2
  exact k2
theorem sLearn_ok {f : Nat → Option sL} {rho r1 : Nat → Int} {b : Nat} : ∀ (iv : sSt) (S : sS) (o : Option sS), sLearn M P f b iv S = some o → (∀ r', sAg S.nx r1 r' → sFx P r' S) → sIvOK rho iv → (∀ r', sAg S.nx r1 r' → sKey f rho r') → ∃ T, o = some T ∧ sEqv S T ∧ ∀ r', sAg S.nx r1 r' → sFx P r' T
  | [], S, o, e, hF, _, _ => by
    cases e
    exact ⟨S, rfl, sEqv.rf S, hF⟩
  | q :: t, S, o, e, hF, hi, hk => by
    have hi2 : sIvOK rho t := fun q' hq => hi q' (List.mem_cons_of_mem _ hq)
    have hq := hi q List.mem_cons_self
    simp only [sLearn] at e
    split at e
    · split at e
      · rename_i c
        have c2 := oLEq_ok c
        have hF2 : ∀ r', sAg (sAddIv S (b + (q.1 - (M + 16))) q.2.1 q.2.2).nx r1 r' → sFx P r' (sAddIv S (b + (q.1 - (M + 16))) q.2.1 q.2.2) := fun r' h => by
          obtain ⟨f1, f2, f3⟩ := hF r' h
          refine ⟨fun m hm => ?_, f2, f3⟩
          rcases List.mem_cons.mp hm with rfl | hm
          · have := hk r' h _ _ c2
            rw [sEv_Y] at this
            simp only
            rw [this]
            exact hq
          · exact f1 m hm
        obtain ⟨T, k1, k2, k3⟩ := sLearn_ok t _ o e hF2 hi2 hk
        exact ⟨T, k1, k2, k3⟩
      · cases e
    · split at e
      · cases e
      · rename_i l c
        obtain ⟨S1, e1, q1, f1⟩ := sLe_all (l := sAdd l (sK (-q.2.2))) hF (fun r' h => by rw [sEv_add, sEv_K, hk r' h _ _ c]; omega)
        rw [e1] at e
        simp only at e
        have en : S1.nx = S.nx := q1.2.2.2.2.1
        obtain ⟨S2, e2, q2, f2⟩ := sLe_all (S := S1) (r1 := r1) (l := sAdd (sMul (-1) l) (sK q.2.1)) (by rw [en]; exact f1) (fun r' h => by rw [en] at h; rw [sEv_add, sEv_mul, sEv_K, hk r' h _ _ c]; omega)
        rw [e2] at e
        simp only at e
        have en2 : S2.nx = S.nx := q2.2.2.2.2.1.trans en
        obtain ⟨T, k1, k2, k3⟩ := sLearn_ok t S2 o e (by rw [en2]; rw [en] at f2; exact f2) hi2 (by rw [en2]; exact hk)
        rw [en2] at k3
        exact ⟨T, k1, (q1.tr q2).tr k2, k3⟩
theorem sLearnF_ok {f : Nat → Option sL} {rho r1 : Nat → Int} : ∀ (li : List sL) (S : sS) (o : Option sS), sLearnF P f li S = some o → (∀ r', sAg S.nx r1 r' → sFx P r' S) → sLiOK rho li → (∀ r', sAg S.nx r1 r' → sKey f rho r') → ∃ T, o = some T ∧ sEqv S T ∧ ∀ r', sAg S.nx r1 r' → sFx P r' T
  | [], S, o, e, hF, _, _ => by
    cases e
    exact ⟨S, rfl, sEqv.rf S, hF⟩
  | l :: t, S, o, e, hF, hi, hk => by
    have hi2 : sLiOK rho t := fun q' hq => hi q' (List.mem_cons_of_mem _ hq)
    have hq := hi l List.mem_cons_self
    simp only [sLearnF] at e
    split at e
    · cases e
    · rename_i m c
      obtain ⟨S1, e1, q1, f1⟩ := sLe_all (l := m) hF (fun r' h => by rw [sSubL_ok (hk r' h) c]; exact hq)
      rw [e1] at e
      simp only at e
      have en : S1.nx = S.nx := q1.2.2.2.2.1
      obtain ⟨T, k1, k2, k3⟩ := sLearnF_ok t S1 o e (by rw [en]; exact f1) hi2 (by rw [en]; exact hk)
      rw [en] at k3
      exact ⟨T, k1, q1.tr k2, k3⟩
/-- the argument at a place -/
theorem relS_at {r' : Nat → Int} : ∀ (as : List sA) (av : List gV) (j : Nat) (a : sA), sRelS r' as av → as[j]? = some a → ∃ v, av[j]? = some v ∧ sRel r' a v
  | [], _, _, _, _, e => by cases e
  | _ :: _, [], _, _, h, _ => by cases h
  | a :: as, v :: av, 0, b, h, e => by
    cases e
    exact ⟨v, rfl, h.1⟩
  | a :: as, v :: av, j + 1, b, h, e => by
    rw [List.getElem?_cons_succ] at e ⊢
    exact relS_at as av j b h.2 e
theorem sSub1_ok {S : sS} {as : List sA} {av : List gV} {cnt : Nat} {lv : List (Nat × gV)} {mu : gM} {rho r' : Nat → Int} (h0 : sIn0 M F av mu rho) (hS : sSatB P F r' S lv mu) (ha : sRelS r' as av) (hn : ∀ i, i < cnt → r' (S.nx + i) = rho (M + 16 + i)) : sKey (sSub1 M P S as S.nx cnt) rho r' := by
  intro k l e
  unfold sSub1 at e
  by_cases c1 : k < M
  · rw [if_pos (Nat.blt_eq.mpr c1)] at e
    rw [h0.1 k c1]
    exact (sVal_ok' hS.2.1 e).symm
  · rw [if_neg (by rw [Nat.blt_eq]; exact c1)] at e
    by_cases c2 : k < M + 9
    · rw [if_pos (Nat.blt_eq.mpr c2)] at e
      have ek : M + (k - M) = k := by omega
      split at e
      · rename_i l' c
        cases e
        obtain ⟨v, v1, v2⟩ := relS_at as av _ _ ha c
        have q := h0.2.1 _ v v1 (by omega)
        rcases v with (v | v) | v
        · simp only at q
          rw [ek] at q
          rw [q]
          exact v2.symm
        · cases v2
        · cases v2
      · rename_i l' c
        cases e
        obtain ⟨v, v1, v2⟩ := relS_at as av _ _ ha c
        have q := h0.2.1 _ v v1 (by omega)
        rcases v with (v | v) | v
        · cases v2
        · simp only at q
          rw [ek] at q
          rw [q]
          exact v2.symm
        · cases v2
      · cases e
    · rw [if_neg (by rw [Nat.blt_eq]; exact c2)] at e
      by_cases c3 : k < M + 16
      · rw [if_pos (Nat.blt_eq.mpr c3)] at e
        split at e
        · rename_i j c
          have m := sKnow_mem _ _ _ _ _ e
          have q := hS.2.2.2 _ m
          have hj : ¬ (sGk j < 1000000) := by unfold sGk; omega
          simp only at q
          rw [if_neg hj, sEv_K] at q
          have q2 := h0.2.2 _ _ c
          rw [show M + 9 + (k - (M + 9)) = k by omega] at q2
          rw [q2, q]
        · cases e
      · rw [if_neg (by rw [Nat.blt_eq]; exact c3)] at e
        by_cases c4 : k - (M + 16) < cnt
        · rw [if_pos (Nat.blt_eq.mpr c4)] at e
          cases e
          rw [sEv_Y, hn _ c4, show M + 16 + (k - (M + 16)) = k by omega]
        · rw [if_neg (by rw [Nat.blt_eq]; exact c4)] at e
          cases e
/-- as sW, for frames with Q -/
def sWQ (X : gX) (P : sP) (F : Nat → Int → gM → Int) (n0 : Nat) (r0 : Nat → Int) (Q : List gV → gM → Prop) (S : sS) : Prop :=
  ∀ (r : Nat → Int) (lv : List (Nat × gV)) (st : List gV) (mu : gM), n0 ≤ S.nx → sAg n0 r0 r → (∀ r', sAg S.nx r r' → sSatB P F r' S lv mu ∧ sRelS r' S.st st) → Q st mu → gG X S.pc lv st mu
theorem sExit_ok {Q : List gV → gM → Prop} {S : sS} {as : List sA} {x : sX} {L : List sS} {n0 : Nat} {r0 : Nat → Int} (e : sExit M P S as x = some L) (hW : ∀ T ∈ L, sWQ X P F n0 r0 Q T) (hn : n0 ≤ S.nx) {r : Nat → Int} {lv : List (Nat × gV)} {sv av : List gV} {mu mu' : gM} (hr : sAg n0 r0 r) (hS : ∀ r', sAg S.nx r r' → sSatB P F r' S lv mu ∧ sRelS r' S.st sv) (ha : ∀ r', sAg S.nx r r' → sRelS r' as av) {ret : Option gV} (hx : sXOK M P F av mu x ret mu') (hQ : Q (retS ret sv) mu') : gG X S.pc lv (retS ret sv) mu' := by
  obtain ⟨rho, h0, h1, h2, h3, h4, h5⟩ := hx
  let r1 : Nat → Int := fun k => if k < S.nx then r k else rho (M + 16 + (k - S.nx))
  have hr1 : sAg S.nx r r1 := fun i hi => if_pos hi
  have hkey : ∀ r', sAg (S.nx + x.2.2.2.2) r1 r' → sKey (sSub1 M P S as S.nx x.2.2.2.2) rho r' := fun r' q => by
    have q2 : sAg S.nx r r' := hr1.tr q (Nat.le_add_right _ _)
    refine sSub1_ok h0 (hS r' q2).1 (ha r' q2) (fun i hi => ?_)
    rw [q (S.nx + i) (by omega)]
    show (if S.nx + i < S.nx then r (S.nx + i) else rho (M + 16 + (S.nx + i - S.nx))) = _
    rw [if_neg (by omega), show S.nx + i - S.nx = i by omega]
  unfold sExit at e
  simp only at e
  split at e
  · rename_i me rt c1 c2
    split at e
    · cases e
    · rename_i c3
      obtain ⟨T, k1, -⟩ := sLearn_ok (r1 := r1) (rho := rho) _ _ _ c3 (fun r' q => (hS r' (hr1.tr q (Nat.le_add_right _ _))).1.2.2.1) h4 hkey
      cases k1
    · rename_i S1 c3
      obtain ⟨T, k1, k2, k3⟩ := sLearn_ok (r1 := r1) (rho := rho) _ _ _ c3 (fun r' q => (hS r' (hr1.tr q (Nat.le_add_right _ _))).1.2.2.1) h4 hkey
      cases k1
      have en : S1.nx = S.nx + x.2.2.2.2 := k2.2.2.2.2.1
      have k3' : ∀ r', sAg (S.nx + x.2.2.2.2) r1 r' → sFx P r' S1 := k3
      split at e
      · cases e
      · rename_i c4
        obtain ⟨T, j1, -⟩ := sLearnF_ok (r1 := r1) (rho := rho) _ _ _ c4 (by rw [en]; exact k3') h5 (by rw [en]; exact hkey)
        cases j1
      · rename_i S2 c4
        obtain ⟨T, j1, j2, j3⟩ := sLearnF_ok (r1 := r1) (rho := rho) _ _ _ c4 (by rw [en]; exact k3') h5 (by rw [en]; exact hkey)
        cases j1
        cases e
        have q := k2.tr j2
        obtain ⟨q1, q2, q3, q4, q5, q6⟩ := q
        have q1' : S2.pc = S.pc := q1
        have q2' : S2.lv = S.lv := q2
        have q3' : S2.st = S.st := q3
        have q4' : S2.me = S.me := q4
        have q5' : S2.nx = S.nx + x.2.2.2.2 := q5
        have q6' : S2.mm = S.mm := q6
        rw [en] at j3
        have g := hW _ List.mem_cons_self r1 lv (retS ret sv) mu' (by show n0 ≤ S2.nx; omega) (hr.tr hr1 hn) (fun r' z => by
          have z1 : sAg (S.nx + x.2.2.2.2) r1 r' := by rw [← q5']; exact z
          have z2 : sAg S.nx r r' := hr1.tr z1 (Nat.le_add_right _ _)
          obtain ⟨⟨a1, a2, a3, a4⟩, b⟩ := hS r' z2
          have hk := hkey r' z1
          refine ⟨⟨?_, fun p g hp => ⟨h2 p g hp, ?_⟩, j3 r' z1, ?_⟩, ?_⟩
          · show sRelL r' S2.lv lv
            rw [q2']
            exact a1
          · show (match sLook (me ++ S2.me) p with | some (some l) => mu' p = sEv r' l | some none => True | none => mu' p = r' p)
            have m := sSubM_ok hk x.2.1 me p c1
            have m2 := h3 p
            rw [sLook_app, q4']
            cases c5 : sLook x.2.1 p with
            | none =>
              rw [c5] at m m2
              simp only at m m2
              rw [m]
              simp only
              rw [m2]
              exact (a2 p g hp).2
            | some o =>
              cases o with
              | none =>
                rw [c5] at m
                simp only at m
                rw [m]
                trivial
              | some l =>
                rw [c5] at m m2
                obtain ⟨w, w1, w2⟩ := m
                simp only at m2
                rw [w1]
                show mu' p = sEv r' w
                rw [w2, m2]
          · cases me with
            | nil =>
              have e0 : x.2.1 = [] := by
                cases c6 : x.2.1 with
                | nil => rfl
                | cons q t =>
                  rw [c6] at c1
                  simp only [sSubM] at c1
                  split at c1
                  · cases c1
                  · split at c1
                    · cases c1
                    · split at c1 <;> cases c1
              have e1 : mu' = mu := by
                funext p
                have m2 := h3 p
                rw [e0] at m2
                exact m2
              rw [e1]
              show sMmOK F r' S2.mm mu
              rw [q6']
              exact a4
            | cons q t => exact fun q hq => absurd hq List.not_mem_nil
          · cases cx : x.1 with
            | none =>
              rw [cx] at c2 h1
              cases c2
              cases ret with
              | none =>
                show sRelS r' S2.st sv
                rw [q3']
                exact b
              | some v => cases h1
            | some a =>
              rw [cx] at c2 h1
              simp only at c2
              cases ret with
              | none => cases h1
              | some v =>
                cases c7 : sSubA (sSub1 M P S as S.nx x.2.2.2.2) a with
                | none => rw [c7] at c2; cases c2
                | some a' =>
                  rw [c7] at c2
                  cases c2
                  refine ⟨sSubA_ok hk c7 h1, ?_⟩
                  show sRelS r' S2.st sv
                  rw [q3']
                  exact b) hQ
        have g2 : gG X S2.pc lv (retS ret sv) mu' := g
        rw [q1'] at g2
        exact g2
  · cases e
end EXITS
