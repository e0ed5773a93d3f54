/-! CONSTRUCTORS: the program is sound -/
def kJS (X : gX) (k0 n0 : Nat) (S : kS) : Prop := kJ X [(0, .inr (gR k0))] n0 S.2.2.2.1 S.2.2.2.2 S.1 S.2.1 S.2.2.1
theorem k_lwf {n k0 : Nat} (h : k0 < n) : lwf n [(0, .inr (gR k0))] = true := by
  simp only [lwf, List.all_cons, List.all_nil, Bool.and_true, vwf, Nat.blt_eq]
  exact h
theorem toNat_in {i : Int32} {n : Nat} (h1 : ¬ i < 0) (h2 : i.toNatClampNeg < n) : vp_in i n := fun z => by
  rcases z with z | z
  · exact h1 z
  · omega
section KSTEP
variable {X : gX} {k0 n0 mcL msL : Nat} {T : List kMe} {po : kPo} {S S' : kS} {idx : Nat}
theorem po_at (hpo : ∀ q ∈ po, poOK (gXo X) T q = true) {a b c : Nat} (e : aFind po idx = some (a, b, c)) : poOK (gXo X) T (idx, a, b, c) = true := hpo _ (aFind_mem _ _ _ e)
theorem kNew_ok (h : kOK X) (hpo : ∀ q ∈ po, poOK (gXo X) T q = true) (c1 : mcL ≤ (gXR X).cells) (c2 : msL ≤ (gXR X).slots) (hd : decode (gXy X) S.1 = .ok (.new idx, 3)) (e : kNew po n0 k0 mcL msL idx S = some S') (k : kJS X k0 n0 S') : kJS X k0 n0 S := by
  obtain ⟨pc, st0, cs, nc, ns⟩ := S
  show kJ X [(0, .inr (gR k0))] n0 nc ns pc st0 cs
  unfold kNew at e
  split at e
  · rename_i ci b ep
    split at e
    · rename_i C F N ev
      split at e
      · rename_i fs ef
        split at e
        · rename_i c
          simp only [Bool.and_eq_true, Nat.blt_eq, Nat.ble_eq] at c
          obtain ⟨c3, c4, c5, c6, c7, c8⟩ := c
          cases e
          have w := po_at hpo ep
          simp only [poOK, ev, Bool.and_eq_true, decide_eq_true_eq] at w
          exact k_new h (gclAll _ _ _ _ ev) w.1 w.2.1 w.2.2 (fun al j hj t ht => kDefs_fs ef al j hj t ht) c6 c3 c4 (k_lwf c5) (List.all_eq_true.mpr (fun v hv => vwf_mono (Nat.zero_le _) (List.all_eq_true.mp (kDefs_ok N 0 fs ef).1 v hv))) (by omega) (by omega) hd k
        · cases e
      · cases e
    · cases e
  · cases e
theorem kArr_ok (h : kOK X) (hgl : ∀ kd, kd < 4 → Jvm.Cond.arrayClass (gty kd) ∈ TW) (c1 : mcL ≤ (gXR X).cells) (c2 : msL ≤ (gXR X).slots) {ty : ArrayType} (hd : decode (gXy X) S.1 = .ok (.newarray ty, 2)) (e : kArr n0 k0 mcL msL ty S = some S') (k : kJS X k0 n0 S') : kJS X k0 n0 S := by
  obtain ⟨pc, st0, cs, nc, ns⟩ := S
  show kJ X [(0, .inr (gR k0))] n0 nc ns pc st0 cs
  unfold kArr at e
  split at e
  · rename_i kd i st ek es
    have es : st0 = gI i :: st := es
    subst es
    split at e
    · rename_i c
      simp only [Bool.and_eq_true, Nat.blt_eq, Nat.ble_eq, decide_eq_true_eq] at c
      obtain ⟨c3, c4, c5, c6, c7, c8, c9, c10⟩ := c
      cases e
      have hk : kd < 4 ∧ newarray.typeOf ty = gty kd := by
        cases ty <;> cases ek <;> exact ⟨by omega, rfl⟩
      exact k_newarray h hk.1 hk.2 (hgl kd hk.1) c7 c4 c5 (k_lwf c6) c3 rfl c8 (by omega) (by omega) hd k
    · cases e
  · cases e
theorem kAnew_ok (h : kOK X) (hpo : ∀ q ∈ po, poOK (gXo X) T q = true) (c1 : mcL ≤ (gXR X).cells) (c2 : msL ≤ (gXR X).slots) (hd : decode (gXy X) S.1 = .ok (.anewarray idx, 3)) (e : kAnew po n0 k0 mcL msL idx S = some S') (k : kJS X k0 n0 S') : kJS X k0 n0 S := by
  obtain ⟨pc, st0, cs, nc, ns⟩ := S
  show kJ X [(0, .inr (gR k0))] n0 nc ns pc st0 cs
  unfold kAnew at e
  split at e
  · rename_i ci kd i st ep es
    have es : st0 = gI i :: st := es
    subst es
    split at e
    · rename_i C F N ev
      split at e
      · rename_i c
        simp only [Bool.and_eq_true, Bool.or_eq_true, Nat.beq_eq, Nat.blt_eq, Nat.ble_eq, decide_eq_true_eq] at c
        obtain ⟨c0, c3, c4, c5, c6, c7, c8, c9, c10⟩ := c
        cases e
        have w := po_at hpo ep
        simp only [poOK, ev, Bool.and_eq_true, decide_eq_true_eq] at w
        exact k_anewarray h c0 w.1 c7 c4 c5 (k_lwf c6) c3 rfl c8 (by omega) (by omega) hd k
      · cases e
    · cases e
  · cases e
theorem kGrid_ok (h : kOK X) (hpo : ∀ q ∈ po, poOK (gXo X) T q = true) (hgl : ∀ kd, kd < 4 → Jvm.Cond.arrayClass (gty kd) ∈ TW) (c1 : mcL ≤ (gXR X).cells) (c2 : msL ≤ (gXR X).slots) (hd : decode (gXy X) S.1 = .ok (.multianewarray idx 2, 4)) (e : kGrid po n0 k0 mcL msL idx S = some S') (k : kJS X k0 n0 S') : kJS X k0 n0 S := by
  obtain ⟨pc, st0, cs, nc, ns⟩ := S
  show kJ X [(0, .inr (gR k0))] n0 nc ns pc st0 cs
  unfold kGrid at e
  split at e
  · rename_i b i j st ep es
    have es : st0 = gI i :: gI j :: st := es
    subst es
    split at e
    · rename_i c
      simp only [Bool.and_eq_true, Nat.blt_eq, Nat.ble_eq, decide_eq_true_eq] at c
      obtain ⟨c3, c4, c5, c6, c7, c8, c9, c10, c11, c12⟩ := c
      cases e
      have w := po_at hpo ep
      have w2 : Jvm.Cond.classLink (gXo X) idx "[[I" ∈ TW := by
        simp only [poOK] at w
        simpa using w
      exact k_mna h w2 (hgl 0 (by omega)) c8 c5 c6 (k_lwf c7) c3 c4 rfl rfl c9 c10 (by omega) (by omega) hd k
    · cases e
  · cases e
theorem kPut_ok (h : kOK X) (hpo : ∀ q ∈ po, poOK (gXo X) T q = true) (hin : (gXh X).name = "<init>") (hd : decode (gXy X) S.1 = .ok (.putfield idx, 3)) (e : kPut po idx S = some S') (k : kJS X k0 n0 S') : kJS X k0 n0 S := by
  obtain ⟨pc, st0, cs, nc, ns⟩ := S
  show kJ X [(0, .inr (gR k0))] n0 nc ns pc st0 cs
  unfold kPut at e
  split at e
  · rename_i ci f v q st ep es
    have es : st0 = v :: gR q :: st := es
    subst es
    split at e
    · rename_i C F N ci' fs ev eq
      split at e
      · rename_i c
        simp only [Bool.and_eq_true, Nat.beq_eq, Nat.blt_eq] at c
        obtain ⟨c3, c4, c5, c6⟩ := c
        subst c3
        cases e
        have w := po_at hpo ep
        simp only [poOK, ev, Bool.and_eq_true, decide_eq_true_eq] at w
        exact k_putfield h hin (gclAll _ _ _ _ ev) c4 eq c5 w.2 w.1 c6 hd k
      · cases e
    · cases e
  · cases e
theorem kAast_ok (h : kOK X) (hd : decode (gXy X) S.1 = .ok (.aastore, 1)) (e : kAast S = some S') (k : kJS X k0 n0 S') : kJS X k0 n0 S := by
  obtain ⟨pc, st0, cs, nc, ns⟩ := S
  show kJ X [(0, .inr (gR k0))] n0 nc ns pc st0 cs
  unfold kAast at e
  split at e
  · rename_i v i q st es
    have es : st0 = gR v :: gI i :: gR q :: st := es
    subst es
    split at e
    · rename_i kd ids ci fs eq ev
      split at e
      · rename_i C F N ec
        split at e
        · rename_i c
          simp only [Bool.and_eq_true, Bool.or_eq_true, Nat.beq_eq, Nat.blt_eq, decide_eq_true_eq] at c
          obtain ⟨c3, c4, c5⟩ := c
          cases e
          exact k_aastore h c3 eq ev ec (toNat_in c4 c5) hd k
        · cases e
      · cases e
    · cases e
  · cases e
theorem kIast_ok (h : kOK X) (hd : decode (gXy X) S.1 = .ok (.iastore, 1)) (e : kIast S = some S') (k : kJS X k0 n0 S') : kJS X k0 n0 S := by
  obtain ⟨pc, st0, cs, nc, ns⟩ := S
  show kJ X [(0, .inr (gR k0))] n0 nc ns pc st0 cs
  unfold kIast at e
  split at e
  · rename_i x i q st es
    have es : st0 = gI x :: gI i :: gR q :: st := es
    subst es
    split at e
    · rename_i xs eq
      split at e
      · rename_i c
        simp only [Bool.and_eq_true, Nat.blt_eq, decide_eq_true_eq] at c
        cases e
        exact k_iastore h eq (toNat_in c.1 c.2) hd k
      · cases e
    · cases e
  · cases e
theorem kCal_ok {call : Nat → Nat → List kC → Option (List kC)} (h : kOK X) (hpo : ∀ q ∈ po, poOK (gXo X) T q = true) (c1 : mcL ≤ (gXR X).cells) (c2 : msL ≤ (gXR X).slots) (hr1 : 1 ≤ (gXR X).frames) (hr2 : 20 ≤ (gXR X).locals)
    (hcall : ∀ mi q cs cs' e, call mi q cs = some cs' → T[mi]? = some e → ∃ d', kMet (gXl X) d' e.1 e.2.1 e.2.2.2.2.1 e.2.2.2.2.2 q cs cs' ∧ (krm d' e.2.2.2.2.1 e.2.2.2.2.2).frames + 1 ≤ (gXR X).frames ∧ 8 + (1 + 11) + (krm d' e.2.2.2.2.1 e.2.2.2.2.2).locals ≤ (gXR X).locals)
    (hd : decode (gXy X) S.1 = .ok (.invokespecial idx, 3)) (e : kCal T call po n0 k0 mcL msL idx S = some S') (k : kJS X k0 n0 S') : kJS X k0 n0 S := by
  obtain ⟨pc, st0, cs, nc, ns⟩ := S
  show kJ X [(0, .inr (gR k0))] n0 nc ns pc st0 cs
  unfold kCal at e
  split at e
  · rename_i q st es
    have es : st0 = gR q :: st := es
    subst es
    split at e
    · rename_i cc
      rw [Nat.ble_eq] at cc
      split at e
      · rename_i a b ep
        cases e
        have w := po_at hpo ep
        simp only [poOK, Bool.and_eq_true, decide_eq_true_eq] at w
        exact k_objInit h w.1 w.2.1 w.2.2 hr1 hr2 cc hd k
      · rename_i mi b ep
        split at e
        · rename_i me cs' eT ecl
          split at e
          · rename_i c
            simp only [Bool.and_eq_true, Nat.blt_eq, Nat.ble_eq] at c
            obtain ⟨c3, c4, c5, c6, c7⟩ := c
            cases e
            have w := po_at hpo ep
            simp only [poOK, eT, Bool.and_eq_true, decide_eq_true_eq] at w
            obtain ⟨w1, w2, w3, w4, w5, w6, w7⟩ := w
            obtain ⟨d', hM, hr⟩ := hcall _ _ _ _ _ ecl eT
            exact k_callN h hM c5 c3 (k_lwf c4) w1 w2 w3 w4 w5 ⟨w6.1, w6.2, w7⟩ hr cc (by omega) (by omega) hd k
          · cases e
        · cases e
      · cases e
    · cases e
  · cases e
theorem kStep_ok {call : Nat → Nat → List kC → Option (List kC)} {ins : Instr} {len : Nat} (h : kOK X) (hin : (gXh X).name = "<init>") (hpo : ∀ q ∈ po, poOK (gXo X) T q = true) (hgl : ∀ kd, kd < 4 → Jvm.Cond.arrayClass (gty kd) ∈ TW) (c1 : mcL ≤ (gXR X).cells) (c2 : msL ≤ (gXR X).slots) (hr1 : 1 ≤ (gXR X).frames) (hr2 : 20 ≤ (gXR X).locals)
    (hcall : ∀ mi q cs cs' e, call mi q cs = some cs' → T[mi]? = some e → ∃ d', kMet (gXl X) d' e.1 e.2.1 e.2.2.2.2.1 e.2.2.2.2.2 q cs cs' ∧ (krm d' e.2.2.2.2.1 e.2.2.2.2.2).frames + 1 ≤ (gXR X).frames ∧ 8 + (1 + 11) + (krm d' e.2.2.2.2.1 e.2.2.2.2.2).locals ≤ (gXR X).locals)
    (hd : decode (gXy X) S.1 = .ok (ins, len)) (e : kStep T call po n0 k0 mcL msL ins len S = some S') (k : kJS X k0 n0 S') : kJS X k0 n0 S := by
  unfold kStep at e
  split at e
  · split at e
    · rename_i i c
      simp only [Bool.and_eq_true, Nat.beq_eq] at c
      obtain ⟨c3, rfl⟩ := c
      cases e
      exact k_aload h hd (by rw [c3]; exact List.mem_cons_self) k
    · cases e
  · split at e
    · rename_i v st es
      split at e
      · rename_i c
        simp only [Bool.and_eq_true, Nat.beq_eq] at c
        obtain ⟨c3, rfl⟩ := c
        cases e
        obtain ⟨pc, st0, cs, nc, ns⟩ := S
        have es : st0 = v :: st := es
        subst es
        exact k_dup h hd c3 k
      · cases e
    · cases e
  · split at e
    · rename_i n c
      rw [Nat.beq_eq] at c
      subst c
      cases e
      exact k_iconst h hd k
    · cases e
  · split at e
    · rename_i n c
      rw [Nat.beq_eq] at c
      subst c
      cases e
      exact k_bipush h hd k
    · cases e
  · split at e
    · rename_i n c
      rw [Nat.beq_eq] at c
      subst c
      cases e
      exact k_sipush h hd k
    · cases e
  · split at e
    · rename_i n c
      rw [Nat.beq_eq] at c
      subst c
      exact kNew_ok h hpo c1 c2 hd e k
    · cases e
  · split at e
    · rename_i n c
      rw [Nat.beq_eq] at c
      subst c
      exact kArr_ok h hgl c1 c2 hd e k
    · cases e
  · split at e
    · rename_i n c
      rw [Nat.beq_eq] at c
      subst c
      exact kAnew_ok h hpo c1 c2 hd e k
    · cases e
  · split at e
    · rename_i n c
      rw [Nat.beq_eq] at c
      subst c
      exact kGrid_ok h hpo hgl c1 c2 hd e k
    · cases e
  · split at e
    · rename_i n c
      rw [Nat.beq_eq] at c
      subst c
      exact kPut_ok h hpo hin hd e k
    · cases e
  · split at e
    · rename_i c
      rw [Nat.beq_eq] at c
      subst c
      exact kAast_ok h hd e k
    · cases e
  · split at e
    · rename_i c
      rw [Nat.beq_eq] at c
      subst c
      exact kIast_ok h hd e k
    · cases e
  · split at e
    · rename_i n c
      rw [Nat.beq_eq] at c
      subst c
      exact kCal_ok h hpo c1 c2 hr1 hr2 hcall hd e k
    · cases e
  · cases e
end KSTEP
