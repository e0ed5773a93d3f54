/-! THE ENGINE IS SOUND: sCheck -/
def cPost (M : Nat) (P : sP) (F : Nat → Int → gM → Int) (c : sC) (av : List gV) (mu : gM) : Option gV → gM → Prop := fun rv mu' => ∃ x ∈ c.2.2.2, sXOK M P F av mu x rv mu'
/-- A METHOD KEEPS A CONTRACT -/
def cMet (l : Launch) (d : Nat) (y : MethodName) (cb : ByteArray) (maxL : Nat) (ret : Option FieldType) (G : List gC) (P : sP) (F : Nat → Int → gM → Int) (M : Nat) (c : sC) : Prop :=
  ∀ (av : List gV) (mu : gM), gArgOK c.1 av → gProf P mu → (∀ h ∈ c.2.1, h.2.1 ≤ mu h.1 ∧ mu h.1 ≤ h.2.2) → gMet l d y cb maxL ret G av mu (cPost M P F c av mu)
def sRtOK : Nat → Option FieldType → Prop
  | 0, r => r = some .int
  | 1, r => r = some .boolean
  | 2, r => r = some .long
  | 3, r => ∃ nm, r = some (.object nm)
  | _, r => r = none
def sStepOK (X : gX) (F : Nat → Int → gM → Int) (Y : sY1) : Prop := ∀ (S : sS) (ins : Instr) (len : Nat) (L : List sS) (n1 : Nat) (r1 : Nat → Int), cAt Y.C S.pc = some (ins, len) → sStep Y S ins len = some L → (∀ T ∈ L, sW X Y.E.P F n1 r1 T) → sW X Y.E.P F n1 r1 S
theorem go0_ok {M : Nat} {r' : Nat → Int} : ∀ (gs : List sG) (av : List gV) (i j : Nat), gArgOK gs av → (∀ (t : Nat) (v : gV), av[t]? = some v → (match v with | .inl (.inl z) => r' (M + (j + t)) = z.toInt | .inl (.inr z) => r' (M + (j + t)) = z.toInt | _ => True)) → sRelL r' (sGo0 M i j gs).1 (gargs i av) ∧ sIvOK r' (sGo0 M i j gs).2
  | [], [], i, j, _, _ => ⟨trivial, fun q hq => absurd hq List.not_mem_nil⟩
  | [], _ :: _, _, _, h, _ => by cases h
  | g :: gs, [], _, _, h, _ => by rcases g with g | g | g <;> cases h
  | g :: gs, v :: av, i, j, h, hv => by
    have hv2 : ∀ (t : Nat) (w : gV), av[t]? = some w → (match w with | .inl (.inl z) => r' (M + (j + 1 + t)) = z.toInt | .inl (.inr z) => r' (M + (j + 1 + t)) = z.toInt | _ => True) := fun t w hw => by
      have := hv (t + 1) w (by rw [List.getElem?_cons_succ]; exact hw)
      rw [show j + 1 + t = j + (t + 1) by omega]
      exact this
    have h0 := hv 0 v rfl
    rcases g with g | g | g <;> rcases v with (v | v) | v <;> first | (cases h; done) | skip
    · obtain ⟨k1, k2⟩ := go0_ok gs av (i + 1) (j + 1) h.2 hv2
      have e : r' (M + j) = v.toInt := h0
      refine ⟨⟨rfl, (show v.toInt = sEv r' (sY (M + j)) by rw [sEv_Y, e]), k1⟩, fun q hq => ?_⟩
      rcases List.mem_cons.mp hq with rfl | hq
      · simp only
        rw [e]
        exact h.1
      · exact k2 q hq
    · obtain ⟨k1, k2⟩ := go0_ok gs av (i + 2) (j + 1) h.2 hv2
      have e : r' (M + j) = v.toInt := h0
      refine ⟨⟨rfl, (show v.toInt = sEv r' (sY (M + j)) by rw [sEv_Y, e]), k1⟩, fun q hq => ?_⟩
      rcases List.mem_cons.mp hq with rfl | hq
      · simp only
        rw [e]
        exact h.1
      · exact k2 q hq
    · obtain ⟨k1, k2⟩ := go0_ok gs av (i + 1) (j + 1) h.2 hv2
      have hg : gcat (.inr v : gV) = 1 := rfl
      exact ⟨⟨rfl, h.1, k1⟩, k2⟩
theorem argOK_len : ∀ (gs : List sG) (av : List gV), gArgOK gs av → gs.length = av.length
  | [], [], _ => rfl
  | [], _ :: _, h => by cases h
  | g :: gs, [], h => by rcases g with g | g | g <;> cases h
  | g :: gs, v :: av, h => by
    rw [List.length_cons, List.length_cons]
    rcases g with g | g | g <;> rcases v with (v | v) | v <;> first | (cases h; done) | rw [argOK_len gs av h.2]
/-- the valuation at a method's start -/
def sR0 (M : Nat) (F : Nat → Int → gM → Int) (av : List gV) (mu : gM) : Nat → Int := fun k =>
  if k < M then mu k else if k < M + 9 then (match av[k - M]? with
    | some (.inl (.inl z)) => z.toInt
    | some (.inl (.inr z)) => z.toInt
    | _ => 0) else match sGh[k - (M + 9)]? with
    | some j => F (sGk j) 0 mu
    | none => 0
theorem sR0_ok (M : Nat) (F : Nat → Int → gM → Int) (av : List gV) (mu : gM) {r' : Nat → Int} (h : sAg (M + 16) (sR0 M F av mu) r') : sIn0 M F av mu r' := by
  refine ⟨fun k hk => ?_, fun j v e hj => ?_, fun i j e => ?_⟩
  · rw [h k (by omega)]
    exact if_pos hk
  · have q : r' (M + j) = (match av[j]? with | some (.inl (.inl z)) => z.toInt | some (.inl (.inr z)) => z.toInt | _ => 0) := by
      rw [h (M + j) (by omega)]
      unfold sR0
      rw [if_neg (by omega), if_pos (by omega), show M + j - M = j by omega]
    rw [e] at q
    rcases v with (v | v) | v
    · exact q
    · exact q
    · trivial
  · have hi : i < 3 := (List.getElem?_eq_some_iff.mp e).1
    rw [h (M + 9 + i) (by omega)]
    unfold sR0
    rw [if_neg (by omega), if_neg (by omega), show M + 9 + i - (M + 9) = i by omega, e]
theorem start_ok {M : Nat} {P : sP} {F : Nat → Int → gM → Int} {c : sC} {av : List gV} {mu : gM} (h01 : ∀ mu, ∀ j ∈ sGh, 0 ≤ F (sGk j) 0 mu ∧ F (sGk j) 0 mu ≤ 1) (hPM : ∀ p g, spAt P p = some g → p < M) (hlen : c.1.length ≤ 9) (hpm : ∀ h ∈ c.2.1, h.1 < M) (ha : gArgOK c.1 av) (hp : gProf P mu) (hpre : ∀ h ∈ c.2.1, h.2.1 ≤ mu h.1 ∧ mu h.1 ≤ h.2.2) {r' : Nat → Int} (h : sIn0 M F av mu r') : sSatB P F r' (sStart M c.1 c.2.1) (gargs 0 av) mu := by
  have hl := argOK_len _ _ ha
  obtain ⟨g1, g2⟩ := go0_ok (M := M) (r' := r') c.1 av 0 0 ha (fun t v e => by
    have ht : t < av.length := (List.getElem?_eq_some_iff.mp e).1
    have := h.2.1 t v e (by omega)
    rw [Nat.zero_add]
    exact this)
  have b4 := h01 mu 4 (by decide)
  have b10 := h01 mu 10 (by decide)
  have b11 := h01 mu 11 (by decide)
  have e4 : r' (M + 9) = F (sGk 4) 0 mu := h.2.2 0 4 rfl
  have e10 : r' (M + 10) = F (sGk 10) 0 mu := h.2.2 1 10 rfl
  have e11 : r' (M + 11) = F (sGk 11) 0 mu := h.2.2 2 11 rfl
  refine ⟨g1, fun p g hg => ⟨hp p g hg, ?_⟩, ⟨fun q hq => ?_, fun l hl => absurd hl List.not_mem_nil, fun p g hg => ?_⟩, fun q hq => ?_⟩
  · exact (h.1 p (hPM p g hg)).symm
  · rcases List.mem_append.mp hq with hq | hq
    · exact g2 q hq
    · rcases List.mem_append.mp hq with hq | hq
      · rw [h.1 _ (hpm q hq)]
        exact hpre q hq
      · simp only [sGh0, List.mem_cons, List.not_mem_nil, or_false] at hq
        rcases hq with rfl | rfl | rfl
        · simp only; rw [e4]; exact b4
        · simp only; rw [e10]; exact b10
        · simp only; rw [e11]; exact b11
  · rw [h.1 p (hPM p g hg)]
    exact hp p g hg
  · have hq2 : q ∈ sGm0 M := hq
    simp only [sGm0, List.mem_cons, List.not_mem_nil, or_false] at hq2
    rcases hq2 with rfl | rfl | rfl
    · rw [if_neg (by unfold sGk; omega)]
      simp only
      rw [sEv_K, sEv_Y, e4]
    · rw [if_neg (by unfold sGk; omega)]
      simp only
      rw [sEv_K, sEv_Y, e10]
    · rw [if_neg (by unfold sGk; omega)]
      simp only
      rw [sEv_K, sEv_Y, e11]
theorem check_ok {Y : sY1} {F : Nat → Int → gM → Int} {rt n : Nat} {c : sC} (e : sCheck Y rt n c = true) {l : Launch} {d : Nat} {y : MethodName} {cb : ByteArray} {maxL : Nat} {ret : Option FieldType} {G : List gC} (hrt : sRtOK rt ret) (hy : plainName y.cls = true) (hml : ∀ av, gArgOK c.1 av → (av.map gcat).sum ≤ maxL)
    (h01 : ∀ mu, ∀ j ∈ sGh, 0 ≤ F (sGk j) 0 mu ∧ F (sGk j) 0 mu ≤ 1) (hPM : ∀ p g, spAt Y.E.P p = some g → p < Y.M) (hown : sOwn Y.E.P G)
    (hX : ∀ (X : gX) (adV : Nat → Nat) (Post : Option gV → gM → Prop), gIn X adV l d y cb maxL ret G Post → sStepOK X F Y ∧ sCodeOK X Y.C) : cMet l d y cb maxL ret G Y.E.P F Y.M c := by
  intro av mu ha hp hpre
  unfold sCheck at e
  simp only [Bool.and_eq_true, Nat.ble_eq, List.all_eq_true, Nat.blt_eq] at e
  obtain ⟨e1, e2, e3⟩ := e
  refine gMet.of hy (hml av ha) (fun X adV hI => ?_)
  obtain ⟨hStep, hC⟩ := hX X adV _ hI
  have hGX : gXG X = G := hI.2.2.2.2.1
  cases eR : sRun Y n [] (sStart Y.M c.1 c.2.1) with
  | none => rw [eR] at e3; cases e3
  | some R =>
    rw [eR] at e3
    simp only [List.all_eq_true, Bool.and_eq_true] at e3
    refine sRun_ok hStep n [] _ R (Y.M + 16) (sR0 Y.M F av mu) eR (fun T hT => ?_) (sR0 Y.M F av mu) (gargs 0 av) [] mu (Nat.le_refl _) (sAg.rf _ _) (fun r' q => ⟨start_ok h01 hPM e1 e2 ha hp hpre (sR0_ok _ _ _ _ q), trivial⟩)
    intro r lv sv mu2 hn hr hD
    have hin := sR0_ok _ _ _ _ hr
    have hB := hD r (sAg.rf _ _)
    obtain ⟨c1, c2⟩ := e3 T hT
    obtain ⟨x, hx, c3⟩ := List.any_eq_true.mp c2
    obtain ⟨rv, k1, k2⟩ := cover_ok c3 hPM hin hB.1 hB.2
    have post : cPost Y.M Y.E.P F c av mu rv (gMix Y.E.P mu mu2) := ⟨x, hx, k2⟩
    refine gG_ext (mu' := gMix Y.E.P mu mu2) (fun k g hk p hpo => ?_) ?_
    · rw [hGX] at hk
      obtain ⟨h', hh⟩ := hown k g hk p hpo
      exact gMix_s hh
    · have hv := hB.2
      have hF := hB.1.2.2.1
      unfold sRetOk at c1
      split at c1
      · rename_i lr d1 d2
        rw [d2] at hv
        rcases sv with _ | ⟨(v | v) | v, _ | ⟨v2, sv⟩⟩
        all_goals try (cases hv; done)
        all_goals try (cases hv.1; done)
        all_goals try (cases hv.2; done)
        rcases rv with _ | rv
        · cases k1
        · cases k1
          simp only [Bool.or_eq_true, Bool.and_eq_true, Nat.beq_eq] at c1
          rcases c1 with c1 | ⟨c1, c4⟩
          · subst c1
            have hr2 : ret = some .int := hrt
            subst hr2
            exact g_ireturn hI rfl (hC _ _ d1) post
          · subst c1
            have hr2 : ret = some .boolean := hrt
            subst hr2
            have b := sRanged_ok hF.1 hF.2.2 c4
            rw [← (show v.toInt = sEv r lr from hv.1)] at b
            refine g_ireturn hI ?_ (hC _ _ d1) post
            rcases x32_01 b.1 b.2 with rfl | rfl <;> rfl
      · rename_i lr d1 d2
        rw [d2] at hv
        rcases sv with _ | ⟨(v | v) | v, _ | ⟨v2, sv⟩⟩
        all_goals try (cases hv; done)
        all_goals try (cases hv.1; done)
        all_goals try (cases hv.2; done)
        rcases rv with _ | rv
        · cases k1
        · cases k1
          rw [Nat.beq_eq] at c1
          subst c1
          have hr2 : ret = some .long := hrt
          subst hr2
          exact g_lreturn hI (hC _ _ d1) post
      · rename_i o d1 d2
        rw [d2] at hv
        rcases sv with _ | ⟨(v | v) | v, _ | ⟨v2, sv⟩⟩
        all_goals try (cases hv; done)
        all_goals try (cases hv.1; done)
        all_goals try (cases hv.2; done)
        rcases rv with _ | rv
        · cases k1
        · cases k1
          rw [Nat.beq_eq] at c1
          subst c1
          obtain ⟨nm, hr2⟩ := hrt
          subst hr2
          exact g_areturn hI (hC _ _ d1) post
      · rename_i d1 d2
        rw [d2] at hv
        rcases sv with _ | ⟨v2, sv⟩
        · rcases rv with _ | rv
          · rw [Nat.beq_eq] at c1
            subst c1
            have hr2 : ret = none := hrt
            subst hr2
            exact g_return hI (hC _ _ d1) post
          · cases k1
        · cases hv
      · cases c1
