/-! TWO CONTRACTS THAT ANSWER ALIKE -/
/-- two exits can't be together, or answer one number -/
def agOne (cx cm : sC) (x y : sX) : Bool :=
  x.2.2.1.any (fun a => y.2.2.1.any (fun b => Nat.beq a.1 b.1 && (Nat.ble 3749 a.1 && (Nat.blt a.1 3757 && ((match cx.1[a.1 - 3748]? with
    | some (.inr (.inr _)) => false
    | some _ => true
    | none => false) && (decide (a.2.2 < b.2.1) || decide (b.2.2 < a.2.1))))))) ||
  (match x.1, y.1 with
    | some (.inl (.inl l)), some (.inl (.inl l')) => (match sB kP (x.2.2.1 ++ cx.2.1) l, sB kP (y.2.2.1 ++ cm.2.1) l' with
      | some g, some g' => decide (g.1 = g.2) && (decide (g'.1 = g'.2) && decide (g.1 = g'.1))
      | _, _ => false)
    | _, _ => false)
/-- the second call's places are as at the start -/
def agPre (mu : gM) (cm : sC) (x : sX) : Bool := cm.2.1.all (fun h => (match sLook x.2.1 h.1 with
  | none => true
  | some (some l) => (match l with
    | (k, []) => decide (h.2.1 ≤ k) && decide (k ≤ h.2.2)
    | _ => false)
  | some none => false) && (Nat.blt h.1 3748 && (decide (h.2.1 ≤ mu h.1) && decide (mu h.1 ≤ h.2.2))))
def isInt (x : sX) : Bool := match x.1 with
  | some (.inl (.inl _)) => true
  | _ => false
/-- both answer ints; alike, if that is asked -/
def agAll (mu : gM) (cmp : Bool) (cx cm : sC) : Bool := cx.2.1.all (fun h => Nat.blt h.1 3748 && (decide (h.2.1 ≤ mu h.1) && decide (mu h.1 ≤ h.2.2))) && (cx.2.2.2.all (fun x => isInt x && agPre mu cm x) && (cm.2.2.2.all isInt && (!cmp || cx.2.2.2.all (fun x => cm.2.2.2.all (agOne cx cm x)))))
theorem isInt_ok {F : Nat → Int → gM → Int} {av : List gV} {mu mu' : gM} {x : sX} {ret : Option gV} (h : isInt x = true) (hx : sXOK 3748 kP F av mu x ret mu') : ∃ z, ret = some (gI z) := by
  obtain ⟨rho, -, hr, -⟩ := hx
  unfold isInt at h
  split at h
  · rename_i l e
    rw [e] at hr
    rcases ret with _ | ((z | z) | z)
    · exact hr.elim
    · exact ⟨z, rfl⟩
    · exact hr.elim
    · exact hr.elim
  · cases h
theorem arg_same {M : Nat} {F : Nat → Int → gM → Int} {a0 b0 : gV} {as : List gV} {mu mu1 : gM} {r r1 : Nat → Int} (h : sIn0 M F (a0 :: as) mu r) (h1 : sIn0 M F (b0 :: as) mu1 r1) {j : Nat} (hj : j < 8) {gs : List sG} {g0 : sG} (hg : gArgOK (g0 :: gs) (a0 :: as)) (hk : match gs[j]? with | some (.inr (.inr _)) => False | some _ => True | none => False) : r (M + (j + 1)) = r1 (M + (j + 1)) := by
  have hl := argOK_len _ _ hg
  have h2 : gArgOK gs as := by
    rcases g0 with g | g | g <;> rcases a0 with (a | a) | a <;> first | exact hg.2 | exact hg.elim
  cases eg : gs[j]? with
  | none => rw [eg] at hk; exact hk.elim
  | some g =>
    have hlt : j < as.length := by
      have := (List.getElem?_eq_some_iff.mp eg).1
      simp only [List.length_cons] at hl
      omega
    have ea : as[j]? = some (as[j]) := List.getElem?_eq_getElem hlt
    have key : ∀ (gs : List sG) (as : List gV) (j : Nat) (g : sG) (v : gV), gArgOK gs as → gs[j]? = some g → as[j]? = some v → (match g with | .inr (.inr _) => True | _ => match v with | .inl _ => True | .inr _ => False) := by
      intro gs
      induction gs with
      | nil => intro as j g v _ e; simp at e
      | cons g1 gs ih =>
        intro as j g v ha e ev
        cases as with
        | nil => rcases g1 with g1 | g1 | g1 <;> exact ha.elim
        | cons v1 as =>
          cases j with
          | zero =>
            cases e
            cases ev
            rcases g1 with g | g | g <;> rcases v with (v | v) | v <;> first | trivial | exact (show False from ha).elim
          | succ j =>
            refine ih as j g v ?_ e ev
            rcases g1 with g1 | g1 | g1 <;> rcases v1 with (v1 | v1) | v1 <;> first | exact ha.2 | exact ha.elim
    have kv := key gs as j g _ h2 eg ea
    have e1 := h.2.1 (j + 1) as[j] (by rw [List.getElem?_cons_succ]; exact ea) (by omega)
    have e2 := h1.2.1 (j + 1) as[j] (by rw [List.getElem?_cons_succ]; exact ea) (by omega)
    rw [eg] at hk
    generalize as[j] = v at kv e1 e2
    rcases g with g | g | g
    · rcases v with (v | v) | v
      · exact e1.trans e2.symm
      · exact e1.trans e2.symm
      · exact kv.elim
    · rcases v with (v | v) | v
      · exact e1.trans e2.symm
      · exact e1.trans e2.symm
      · exact kv.elim
    · exact hk.elim
theorem agOne_ok {F : Nat → Int → gM → Int} {cx cm : sC} {x y : sX} (h : agOne cx cm x y = true) (hPM : ∀ p g, spAt kP p = some g → p < 3748) {a0 b0 : gV} {as : List gV} {mu mu1 mu2 : gM} {z z' : Int32} (hp : gProf kP mu) (hp1 : gProf kP mu1) (hax : gArgOK cx.1 (a0 :: as)) (hpx : ∀ h ∈ cx.2.1, h.1 < 3748 ∧ h.2.1 ≤ mu h.1 ∧ mu h.1 ≤ h.2.2) (hpm : ∀ h ∈ cm.2.1, h.1 < 3748 ∧ h.2.1 ≤ mu1 h.1 ∧ mu1 h.1 ≤ h.2.2)
    (hx : sXOK 3748 kP F (a0 :: as) mu x (some (gI z)) mu1) (hy : sXOK 3748 kP F (b0 :: as) mu1 y (some (gI z')) mu2) : z = z' := by
  obtain ⟨rx, hx0, hxr, -, -, hxi, -⟩ := hx
  obtain ⟨ry, hy0, hyr, -, -, hyi, -⟩ := hy
  simp only [agOne, Bool.or_eq_true] at h
  rcases h with h | h
  · exfalso
    obtain ⟨a, ha, h⟩ := List.any_eq_true.mp h
    obtain ⟨b, hb, h⟩ := List.any_eq_true.mp h
    simp only [Bool.and_eq_true, Bool.or_eq_true, Nat.beq_eq, Nat.ble_eq, Nat.blt_eq, decide_eq_true_eq] at h
    obtain ⟨h1, h2, h3, h4, h5⟩ := h
    have i1 := hxi a ha
    have i2 := hyi b hb
    rw [← h1] at i2
    have e : rx a.1 = ry a.1 := by
      rcases ec : cx.1 with _ | ⟨g0, gs⟩
      · rw [ec] at hax
        exact hax.elim
      · rw [ec] at hax h4
        have := arg_same hx0 hy0 (j := a.1 - 3749) (by omega) hax (by
          rw [show a.1 - 3748 = (a.1 - 3749) + 1 by omega, List.getElem?_cons_succ] at h4
          cases eg : gs[a.1 - 3749]? with
          | none => rw [eg] at h4; cases h4
          | some g =>
            rw [eg] at h4
            rcases g with g | g | g
            · trivial
            · trivial
            · cases h4)
        rw [show 3748 + (a.1 - 3749 + 1) = a.1 by omega] at this
        exact this
    rw [e] at i1
    omega
  · split at h
    · rename_i l l' el el'
      rw [el] at hxr
      rw [el'] at hyr
      split at h
      · rename_i g g' eg eg'
        simp only [Bool.and_eq_true, decide_eq_true_eq] at h
        have b1 := sB_ok (r := rx) (fun q hq => by
          rcases List.mem_append.mp hq with hq | hq
          · exact hxi q hq
          · rw [hx0.1 _ (hpx q hq).1]
            exact (hpx q hq).2) (fun p g e => by rw [hx0.1 p (hPM p g e)]; exact hp p g e) eg
        have b2 := sB_ok (r := ry) (fun q hq => by
          rcases List.mem_append.mp hq with hq | hq
          · exact hyi q hq
          · rw [hy0.1 _ (hpm q hq).1]
            exact (hpm q hq).2) (fun p g e => by rw [hy0.1 p (hPM p g e)]; exact hp1 p g e) eg'
        have z1 : z.toInt = sEv rx l := hxr
        have z2 : z'.toInt = sEv ry l' := hyr
        have : z.toInt = z'.toInt := by omega
        rw [← Int32.ofInt_toInt z, this, Int32.ofInt_toInt]
      · cases h
    · cases h
def lawN (_ : Nat) : String := "TwinVoiceLaw"
def chkHead (k : Nat) (c : sC) : Bool := match c.1 with
  | .inr (.inr (some j)) :: _ => Nat.beq j k
  | _ => false
/-- two contracts serve a case of the law, at a memory -/
def chkTop (MT : List tM) (CT : List (List tC)) (mu : gM) (q : hQ) (p : Nat × Nat) : Bool := match bAt CT p.1, bAt CT p.2 with
  | some cx, some cm => (match MT[cx.1]?, MT[cm.1]? with
    | some mx, some mm => chkHead 0 cx.2.1 && (chkHead 166 cm.2.1 && (chkR mx cx.2.1 (cx.2.1.1.length - 1) && (chkR mm cm.2.1 (cm.2.1.1.length - 1) && (chkL MT lawN (0, q.2.2.2.1, cx.1, 0, cx.2.1.1.length - 1) && (chkL MT lawN (0, q.2.2.2.2, cm.1, 0, cm.2.1.1.length - 1) && (Nat.ble mx.2.2.1 40 && (Nat.ble mm.2.2.1 40 && agAll mu q.2.2.1 cx.2.1 cm.2.1)))))))
    | _, _ => false)
  | _, _ => false
theorem gAt_cls {X : gX} (hG : gXG X = kG) (kg1 : chkG kG kGb = true) {m : tM} {c : sC} {np k0 : Nat} (hm : chkM m = true) (hh : chkHead k0 c = true) (hr : chkR m c np = true) : ∃ (gs : List sG) (ci : Nat) (fs : List gF) (T : u_T) (N : Nat), c.1 = .inr (.inr (some k0)) :: gs ∧ gs.length = np ∧ (gXG X)[k0]? = some (.inl (ci, fs)) ∧ vwCl[ci]? = some (m.1.cls, T, N) := by
  unfold chkR at hr
  unfold chkHead at hh
  split at hr
  · rename_i k gs ek
    rw [ek] at hh
    simp only [Nat.beq_eq] at hh
    subst hh
    simp only [Bool.and_eq_true, Nat.beq_eq] at hr
    obtain ⟨r1, r2⟩ := hr
    split at r2
    · rename_i ci fs eg
      rw [Nat.beq_eq] at r2
      rw [chkG_ok kg1] at eg
      unfold chkM at hm
      simp only [Bool.and_eq_true] at hm
      have h6 := hm.2.2.2
      rw [← r2] at h6
      have hci : ∃ r, vwCl[ci]? = some r := by
        have hall : kG.all (fun g => match g with | .inl (ci, _) => Nat.blt ci 13 | _ => true) = true := by decide +kernel
        have := List.all_eq_true.mp hall _ (List.mem_of_getElem? eg)
        simp only [Nat.blt_eq] at this
        exact ⟨_, List.getElem?_eq_getElem (show ci < vwCl.length from this)⟩
      obtain ⟨⟨C, T, N⟩, hr⟩ := hci
      rw [hr] at h6
      have e6 : C = m.1.cls := of_decide_eq_true h6
      subst e6
      exact ⟨gs, ci, fs, T, N, ek, r1, by rw [hG]; exact eg, hr⟩
    · cases r2
  · cases hr
theorem top_case {X : gX} {adV : Nat → Nat} {F : Nat → Int → gM → Int} {MT : List tM} {CT : List (List tC)} {mu : gM} {q : hQ} {p : Nat × Nat} {as : List gV} (hOK : gOK X) (hOE : gOE X adV) (hrm : gXR X = room_1) (ho : gXo X = "TwinVoiceLaw") (hG : gXG X = kG) (kg1 : chkG kG kGb = true) (hPM : ∀ p g, spAt kP p = some g → p < 3748) (hM : ∀ m ∈ MT, chkM m = true)
    (hT : ∀ (i : Nat) (c : tC) (m : tM), bAt CT i = some c → MT[c.1]? = some m → cMet (gXl X) (i + 5) m.1 m.2.1 m.2.2.1 m.2.2.2.1 kG kP F 3748 c.2.1) (hlt : p.1 < 1200 ∧ p.2 < 1200) (h : chkTop MT CT mu q p = true) (hp : gProf kP mu)
    (hax : ∀ c, bAt CT p.1 = some c → gArgOK c.2.1.1 (gR 0 :: as)) (ham : ∀ c, bAt CT p.2 = some c → gArgOK c.2.1.1 (gR 166 :: as)) : hCase X q as mu (fun _ => True) := by
  unfold chkTop at h
  split at h
  · rename_i cx cm ex em
    split at h
    · rename_i mx mm emx emm
      simp only [Bool.and_eq_true, Nat.ble_eq] at h
      obtain ⟨h1, h2, h3, h4, h5, h6, h7, h8, h9⟩ := h
      have ax := hax _ ex
      have am := ham _ em
      obtain ⟨gx, cix, fsx, Tx, Nx, x1, x2, x3, x4⟩ := gAt_cls (X := X) hG kg1 (hM mx (List.mem_of_getElem? emx)) h1 h3
      obtain ⟨gm, cim, fsm, Tm, Nm, m1, m2, m3, m4⟩ := gAt_cls (X := X) hG kg1 (hM mm (List.mem_of_getElem? emm)) h2 h4
      have lx := argOK_len _ _ ax
      have lm := argOK_len _ _ am
      simp only [List.length_cons] at lx lm
      have gx1 := chkL_gcw h5 (show (0 : Nat) ≠ 4 ∧ (0 : Nat) ≠ 5 by decide) emx h7
      have gm1 := chkL_gcw h6 (show (0 : Nat) ≠ 4 ∧ (0 : Nat) ≠ 5 by decide) emm h8
      have wx := (chkL_words h5 (show (0 : Nat) ≠ 4 ∧ (0 : Nat) ≠ 5 by decide) emx).1 rfl
      have wm := (chkL_words h6 (show (0 : Nat) ≠ 4 ∧ (0 : Nat) ≠ 5 by decide) emm).1 rfl
      simp only [lawN] at gx1 gm1 wx wm
      rw [← ho] at gx1 gm1 wx wm
      simp only [agAll, Bool.and_eq_true, List.all_eq_true, Nat.blt_eq, decide_eq_true_eq] at h9
      obtain ⟨a1, a2, a3, a4⟩ := h9
      have cX := hT _ _ _ ex emx
      have cM := hT _ _ _ em emm
      rw [← hG] at cX cM
      refine ⟨_, hCal.of hOK hOE hrm (d' := p.1 + 5) (by omega) (cX (gR 0 :: as) mu ax hp (fun h hh => (a1 h hh).2)) gx1 wx.1 wx.2.1 wx.2.2 x3 x4 (by omega), fun r mu1 hpost => ?_⟩
      obtain ⟨x, hx, hxo⟩ := hpost
      obtain ⟨zx, rfl⟩ := isInt_ok (a2 x hx).1 hxo
      have hprof1 : gProf kP mu1 := hxo.choose_spec.2.2.1
      have hpre : ∀ h ∈ cm.2.1.2.1, h.1 < 3748 ∧ h.2.1 ≤ mu1 h.1 ∧ mu1 h.1 ≤ h.2.2 := by
        intro h hh
        have w := List.all_eq_true.mp (a2 x hx).2 h hh
        simp only [Bool.and_eq_true, Nat.blt_eq, decide_eq_true_eq] at w
        obtain ⟨w1, w2, w3, w4⟩ := w
        obtain ⟨rho, -, -, -, hme, -, -⟩ := hxo
        have hm := hme h.1
        refine ⟨w2, ?_⟩
        split at w1
        · rename_i e
          rw [e] at hm
          rw [hm]
          exact ⟨w3, w4⟩
        · rename_i l e
          rw [e] at hm
          split at w1
          · rename_i k
            simp only [Bool.and_eq_true, decide_eq_true_eq] at w1
            have hm : mu1 h.1 = sEv rho (k, []) := hm
            rw [hm]
            show h.2.1 ≤ k + 0 ∧ k + 0 ≤ h.2.2
            omega
          · cases w1
        · cases w1
      refine ⟨zx, rfl, _, hCal.of hOK hOE hrm (d' := p.2 + 5) (by omega) (cM (gR 166 :: as) mu1 am hprof1 (fun h hh => (hpre h hh).2)) gm1 wm.1 wm.2.1 wm.2.2 m3 m4 (by omega), fun r2 mu2 hpost2 => ?_⟩
      obtain ⟨y, hy, hyo⟩ := hpost2
      obtain ⟨zm, rfl⟩ := isInt_ok (a3 y hy) hyo
      refine ⟨zm, rfl, fun hcmp => ?_, trivial⟩
      rw [hcmp] at a4
      simp only [Bool.not_true, Bool.false_or, List.all_eq_true] at a4
      exact agOne_ok (a4 x hx y hy) hPM hp hprof1 ax (fun h hh => a1 h hh) hpre hxo hyo
    · cases h
  · cases h
