/-! THE ENGINE IS SOUND: loops -/
theorem sVal_at {P : sP} {S : sS} {p : Nat} {l : sL} (e : sVal P S p = some l) : ∃ g, spAt P p = some g := by
  unfold sVal at e
  cases c : spAt P p with
  | none => rw [c] at e; cases e
  | some g => exact ⟨g, rfl⟩
theorem sVal_ok' {P : sP} {S : sS} {r : Nat → Int} {mu : gM} (h : sMeOK P r S.me mu) {p : Nat} {l : sL} (e : sVal P S p = some l) : mu p = sEv r l := by
  obtain ⟨g, hg⟩ := sVal_at e
  exact sVal_ok h hg e
theorem sValIn_ok {P : sP} {S : sS} {r : Nat → Int} {mu : gM} (h : sMeOK P r S.me mu) (hF : sFx P r S) {p : Nat} {lo hi : Int} (e : sValIn P S p lo hi = true) : lo ≤ mu p ∧ mu p ≤ hi := by
  unfold sValIn at e
  cases c : sVal P S p with
  | some l =>
    rw [c] at e
    rw [sVal_ok' h c]
    exact sRanged_ok hF.1 hF.2.2 e
  | none =>
    rw [c] at e
    cases c2 : spAt P p with
    | none => rw [c2] at e; cases e
    | some g =>
      rw [c2] at e
      simp only [Bool.and_eq_true, decide_eq_true_eq] at e
      have := (h p g c2).1
      omega
theorem sLook_cons {q : Nat × Nat × Option sL} {me : sMem} {p : Nat} : sLook (q :: me) p = if q.1 ≤ p ∧ p ≤ q.2.1 then some q.2.2 else sLook me p := by
  simp only [sLook]
  by_cases c : q.1 ≤ p ∧ p ≤ q.2.1
  · rw [if_pos c, if_pos (by simp only [Bool.and_eq_true, Nat.ble_eq]; exact c)]
  · rw [if_neg c, if_neg (by simp only [Bool.and_eq_true, Nat.ble_eq]; exact c)]
def sOut (ml : List (Nat × Nat × Option (Int × Int))) (p : Nat) : Prop := ∀ e ∈ ml, ¬ (e.1 ≤ p ∧ p ≤ e.2.1)
def sSays (r : Nat → Int) (o : Option (Option sL)) (p : Nat) (v : Int) : Prop := match o with
  | some (some l) => v = sEv r l
  | some none => True
  | none => v = r p
def sDm (P : sP) (r : Nat → Int) (S : sS) (lv : List (Nat × gV)) (sv : List gV) (mu : gM) (ml : List (Nat × Nat × Option (Int × Int))) : Prop :=
  ∀ r', sAg S.nx r r' → (sRelL r' S.lv lv ∧ sFx P r' S ∧ ∀ p g, spAt P p = some g → (g.1 ≤ mu p ∧ mu p ≤ g.2) ∧ (sOut ml p → sSays r' (sLook S.me p) p (mu p))) ∧ sRelS r' S.st sv
def sLike2 (S T : sS) : Prop := T.pc = S.pc ∧ T.st = S.st ∧ T.lv = S.lv ∧ T.li = S.li ∧ T.mm = S.mm ∧ S.nx ≤ T.nx
theorem sLike2.rf (S : sS) : sLike2 S S := ⟨rfl, rfl, rfl, rfl, rfl, Nat.le_refl _⟩
theorem D_none {P : sP} {S : sS} {r : Nat → Int} {lv : List (Nat × gV)} {sv : List gV} {mu : gM} {e : Nat × Nat × Option (Int × Int)} {t : List (Nat × Nat × Option (Int × Int))} (h : sDm P r S lv sv mu (e :: t)) : sDm P r (S.pc, S.lv, S.st, (e.1, e.2.1, none) :: S.me, S.iv, S.li, S.nx, S.mm) lv sv mu t := by
  intro r' q
  obtain ⟨⟨a1, a2, a3⟩, b⟩ := h r' q
  refine ⟨⟨a1, a2, fun p g hp => ⟨(a3 p g hp).1, fun ho => ?_⟩⟩, b⟩
  show sSays r' (sLook ((e.1, e.2.1, none) :: S.me) p) p (mu p)
  rw [sLook_cons]
  by_cases c : e.1 ≤ p ∧ p ≤ e.2.1
  · rw [if_pos c]
    trivial
  · rw [if_neg c]
    refine (a3 p g hp).2 (fun e' he' => ?_)
    rcases List.mem_cons.mp he' with rfl | he'
    · exact c
    · exact ho e' he'
theorem D_some {P : sP} {S : sS} {r : Nat → Int} {lv : List (Nat × gV)} {sv : List gV} {mu : gM} {e : Nat × Nat × Option (Int × Int)} {t : List (Nat × Nat × Option (Int × Int))} {lo hi : Int} (he : e.1 = e.2.1) (h1 : lo ≤ mu e.1) (h2 : mu e.1 ≤ hi) (h : sDm P r S lv sv mu (e :: t)) : sDm P (sUp r S.nx (mu e.1)) (S.pc, S.lv, S.st, (e.1, e.1, some (sY S.nx)) :: S.me, (S.nx, lo, hi) :: S.iv, S.li, S.nx + 1, S.mm) lv sv mu t := by
  intro r' q
  have q0 : sAg S.nx r r' := sUp_ag.tr q (Nat.le_succ _)
  have q1 : r' S.nx = mu e.1 := (q S.nx (Nat.lt_succ_self _)).trans sUp_s
  obtain ⟨⟨a1, ⟨f1, f2, f3⟩, a3⟩, b⟩ := h r' q0
  refine ⟨⟨a1, ⟨fun m hm => ?_, f2, f3⟩, fun p g hp => ⟨(a3 p g hp).1, fun ho => ?_⟩⟩, b⟩
  · rcases List.mem_cons.mp hm with rfl | hm
    · simp only
      rw [q1]
      exact ⟨h1, h2⟩
    · exact f1 m hm
  · show sSays r' (sLook ((e.1, e.1, some (sY S.nx)) :: S.me) p) p (mu p)
    rw [sLook_cons]
    by_cases c : e.1 ≤ p ∧ p ≤ e.1
    · rw [if_pos c]
      have : p = e.1 := by omega
      show mu p = sEv r' (sY S.nx)
      rw [sEv_Y, q1, this]
    · rw [if_neg c]
      refine (a3 p g hp).2 (fun e' he' => ?_)
      rcases List.mem_cons.mp he' with rfl | he'
      · omega
      · exact ho e' he'
theorem D_of {P : sP} {S : sS} {r : Nat → Int} {lv : List (Nat × gV)} {sv : List gV} {mu : gM} (h : sD P r S lv sv mu) (ml : List (Nat × Nat × Option (Int × Int))) : sDm P r S lv sv mu ml :=
  fun r' q => ⟨⟨(h r' q).1.1, (h r' q).1.2.2, fun p g hp => ⟨((h r' q).1.2.1 p g hp).1, fun _ => ((h r' q).1.2.1 p g hp).2⟩⟩, (h r' q).2⟩
theorem D_to {P : sP} {S : sS} {r : Nat → Int} {lv : List (Nat × gV)} {sv : List gV} {mu : gM} (h : sDm P r S lv sv mu []) : sD P r S lv sv mu :=
  fun r' q => ⟨⟨(h r' q).1.1, fun p g hp => ⟨((h r' q).1.2.2 p g hp).1, ((h r' q).1.2.2 p g hp).2 (fun e he => absurd he List.not_mem_nil)⟩, (h r' q).1.2.1⟩, (h r' q).2⟩
theorem havM_to {P : sP} {lv : List (Nat × gV)} {sv : List gV} {mu : gM} : ∀ (ml : List (Nat × Nat × Option (Int × Int))) (S T : sS) (r : Nat → Int), sDm P r S lv sv mu ml → sHavM P ml S = some T → (∀ e ∈ ml, ∀ h, e.2.2 = some h → h.1 ≤ mu e.1 ∧ mu e.1 ≤ h.2) → ∃ r1, sAg S.nx r r1 ∧ sD P r1 T lv sv mu ∧ sLike2 S T
  | [], S, T, r, hD, e, _ => by
    cases e
    exact ⟨r, sAg.rf _ _, D_to hD, sLike2.rf S⟩
  | q :: t, S, T, r, hD, e, hm => by
    simp only [sHavM] at e
    cases c : q.2.2 with
    | none =>
      rw [c] at e
      exact havM_to t (S.pc, S.lv, S.st, (q.1, q.2.1, none) :: S.me, S.iv, S.li, S.nx, S.mm) T r (D_none hD) e (fun e' he => hm e' (List.mem_cons_of_mem _ he))
    | some h =>
      rw [c] at e
      simp only at e
      split at e
      · rename_i c2
        simp only [Bool.and_eq_true, Nat.beq_eq] at c2
        have b := hm q List.mem_cons_self h c
        obtain ⟨r1, k1, k2, k3⟩ := havM_to t _ T _ (D_some c2.1 b.1 b.2 hD) e (fun e' he => hm e' (List.mem_cons_of_mem _ he))
        exact ⟨r1, sUp_ag.tr k1 (Nat.le_succ _), k2, k3.1, k3.2.1, k3.2.2.1, k3.2.2.2.1, k3.2.2.2.2.1, Nat.le_trans (Nat.le_succ _) k3.2.2.2.2.2⟩
      · cases e
theorem havM_in {P : sP} {lv : List (Nat × gV)} {sv : List gV} {mu : gM} : ∀ (ml : List (Nat × Nat × Option (Int × Int))) (S T : sS) (r : Nat → Int), sD P r S lv sv mu → sHavM P ml S = some T → ∃ r1, sAg S.nx r r1 ∧ sD P r1 T lv sv mu ∧ sLike2 S T
  | [], S, T, r, hD, e => by
    cases e
    exact ⟨r, sAg.rf _ _, hD, sLike2.rf S⟩
  | q :: t, S, T, r, hD, e => by
    simp only [sHavM] at e
    cases c : q.2.2 with
    | none =>
      rw [c] at e
      exact havM_in t (S.pc, S.lv, S.st, (q.1, q.2.1, none) :: S.me, S.iv, S.li, S.nx, S.mm) T r (D_to (D_none (e := q) (D_of hD _))) e
    | some h =>
      rw [c] at e
      simp only at e
      split at e
      · rename_i c2
        simp only [Bool.and_eq_true, Nat.beq_eq] at c2
        have h0 := (hD r (sAg.rf _ _)).1
        have b := sValIn_ok h0.2.1 h0.2.2 c2.2
        obtain ⟨r1, k1, k2, k3⟩ := havM_in t _ T _ (D_to (D_some (e := q) c2.1 b.1 b.2 (D_of hD _))) e
        exact ⟨r1, sUp_ag.tr k1 (Nat.le_succ _), k2, k3.1, k3.2.1, k3.2.2.1, k3.2.2.2.1, k3.2.2.2.2.1, Nat.le_trans (Nat.le_succ _) k3.2.2.2.2.2⟩
      · cases e
theorem havM_look {P : sP} {p : Nat} : ∀ (ml : List (Nat × Nat × Option (Int × Int))) (S T : sS), sHavM P ml S = some T → sOut ml p → sLook T.me p = sLook S.me p
  | [], S, T, e, _ => by cases e; rfl
  | q :: t, S, T, e, ho => by
    have ho2 : sOut t p := fun e' he => ho e' (List.mem_cons_of_mem _ he)
    have ho1 := ho q List.mem_cons_self
    simp only [sHavM] at e
    cases c : q.2.2 with
    | none =>
      rw [c] at e
      rw [havM_look t _ T e ho2]
      show sLook ((q.1, q.2.1, none) :: S.me) p = _
      rw [sLook_cons, if_neg ho1]
    | some h =>
      rw [c] at e
      simp only at e
      split at e
      · rename_i c2
        simp only [Bool.and_eq_true, Nat.beq_eq] at c2
        rw [havM_look t _ T e ho2]
        show sLook ((q.1, q.1, _) :: S.me) p = _
        rw [sLook_cons, if_neg (by rw [← c2.1] at ho1; exact ho1)]
      · cases e
theorem sMono_mem {P : sP} {S T : sS} : ∀ (ps : List Nat) (l : sL), l ∈ sMono P S T ps → ∃ p a b, p ∈ ps ∧ sVal P S p = some a ∧ sVal P T p = some b ∧ l = sSub a b
  | [], _, h => absurd h List.not_mem_nil
  | p :: t, l, h => by
    simp only [sMono] at h
    split at h
    · rename_i a b c1 c2
      rcases List.mem_cons.mp h with rfl | h
      · exact ⟨p, a, b, List.mem_cons_self, c1, c2, rfl⟩
      · obtain ⟨p', a', b', k1, k2⟩ := sMono_mem t l h
        exact ⟨p', a', b', List.mem_cons_of_mem _ k1, k2⟩
    · obtain ⟨p', a', b', k1, k2⟩ := sMono_mem t l h
      exact ⟨p', a', b', List.mem_cons_of_mem _ k1, k2⟩
/-- the head's last touch: T is the state behind the havoc -/
def sHd (P : sP) (H : sH) (S T : sS) : sS := (T.pc, T.lv, T.st, T.me, T.iv, sMono P S T H.2.2.2.2 ++ T.li, T.nx, [])
theorem sHead_eq {P : sP} {H : sH} {S U : sS} (e : sHead P H S = some U) : ∃ S1 T, sHavL P H.1 S = some S1 ∧ sHavM P H.2.1 S1 = some T ∧ U = sHd P H S T := by
  unfold sHead at e
  cases c : sHavL P H.1 S with
  | none => rw [c] at e; cases e
  | some S1 =>
    rw [c] at e
    simp only at e
    cases c2 : sHavM P H.2.1 S1 with
    | none => rw [c2] at e; cases e
    | some T =>
      rw [c2] at e
      cases e
      exact ⟨S1, T, rfl, c2, rfl⟩
theorem D_hd {P : sP} {H : sH} {S T : sS} {r r1 : Nat → Int} {lv lv1 : List (Nat × gV)} {sv : List gV} {mu mu1 : gM} (hD : sD P r S lv sv mu) (hD1 : sD P r1 T lv1 sv mu1) (ha : sAg S.nx r r1) (hn : S.nx ≤ T.nx) (hm : ∀ p ∈ H.2.2.2.2, ∀ l, sVal P S p = some l → mu p ≤ mu1 p) : sD P r1 (sHd P H S T) lv1 sv mu1 := by
  intro r' q
  obtain ⟨⟨a1, a2, a3, a4, a5⟩, b⟩ := hD1 r' q
  refine ⟨⟨a1, a2, a3, fun l hl => ?_, a5⟩, b⟩
  rcases List.mem_append.mp hl with hl | hl
  · obtain ⟨p, u, w, k1, k2, k3, rfl⟩ := sMono_mem _ _ hl
    have e1 := sVal_ok' (hD r' (ha.tr q hn)).1.2.1 k2
    have e2 := sVal_ok' a2 k3
    rw [sEv_sub, ← e1, ← e2]
    have := hm p k1 u k2
    omega
  · exact a4 l hl
theorem head_in {P : sP} {H : sH} {S U : sS} {r : Nat → Int} {lv : List (Nat × gV)} {sv : List gV} {mu : gM} (hD : sD P r S lv sv mu) (e : sHead P H S = some U) : ∃ r1 lv1, sAg S.nx r r1 ∧ sD P r1 U lv1 sv mu ∧ (∀ q ∈ lv1, q ∈ lv) := by
  obtain ⟨S1, T, e1, e2, rfl⟩ := sHead_eq e
  obtain ⟨r1, lv1, k1, k2, k3, k4⟩ := havL_in _ _ _ _ _ hD e1
  obtain ⟨r2, m1, m2, m3⟩ := havM_in _ _ _ _ k2 e2
  have ha : sAg S.nx r r2 := k1.tr m1 k4.2.2.2.2.2
  exact ⟨r2, lv1, ha, D_hd hD m2 ha (Nat.le_trans k4.2.2.2.2.2 m3.2.2.2.2.2) (fun p _ l _ => Int.le_refl _), k3⟩
theorem head_same {P : sP} {H : sH} {S U : sS} (e : sHead P H S = some U) : S.nx ≤ U.nx ∧ U.pc = S.pc ∧ U.st = S.st ∧ U.mm = [] ∧ (∀ p, sOut H.2.1 p → sLook U.me p = sLook S.me p) := by
  obtain ⟨S1, T, e1, e2, rfl⟩ := sHead_eq e
  have key : ∀ (hl : List (Nat × Int × Int × Int)) (S T : sS), sHavL P hl S = some T → T.pc = S.pc ∧ T.st = S.st ∧ T.me = S.me ∧ S.nx ≤ T.nx := by
    intro hl
    induction hl with
    | nil => intro S T e; cases e; exact ⟨rfl, rfl, rfl, Nat.le_refl _⟩
    | cons h t ih =>
      intro S T e
      simp only [sHavL] at e
      split at e
      · cases e
      · split at e
        · split at e
          · have := ih _ _ e
            exact ⟨this.1, this.2.1, this.2.2.1, Nat.le_trans (Nat.le_succ _) this.2.2.2⟩
          · cases e
        · split at e
          · have := ih _ _ e
            exact ⟨this.1, this.2.1, this.2.2.1, Nat.le_trans (Nat.le_succ _) this.2.2.2⟩
          · cases e
        · cases e
  have key2 : ∀ (ml : List (Nat × Nat × Option (Int × Int))) (S T : sS), sHavM P ml S = some T → T.pc = S.pc ∧ T.st = S.st ∧ S.nx ≤ T.nx := by
    intro ml
    induction ml with
    | nil => intro S T e; cases e; exact ⟨rfl, rfl, Nat.le_refl _⟩
    | cons h t ih =>
      intro S T e
      simp only [sHavM] at e
      split at e
      · exact ih (S.pc, S.lv, S.st, (h.1, h.2.1, none) :: S.me, S.iv, S.li, S.nx, S.mm) T e
      · split at e
        · have := ih _ _ e
          exact ⟨this.1, this.2.1, Nat.le_trans (Nat.le_succ _) this.2.2⟩
        · cases e
  have a := key _ _ _ e1
  have b := key2 _ _ _ e2
  exact ⟨Nat.le_trans a.2.2.2 b.2.2, b.1.trans a.1, b.2.1.trans a.2.1, rfl, fun p ho => (havM_look _ _ _ e2 ho).trans (by rw [a.2.2.1])⟩
theorem head_to {P : sP} {H : sH} {S U : sS} {r : Nat → Int} {lv : List (Nat × gV)} {sv : List gV} {mu mu1 : gM} (hD : sD P r S lv sv mu) (e : sHead P H S = some U) (val : Nat → gV) (hv : ∀ h ∈ H.1, hvOK h (val h.1)) (hk : ∀ h ∈ H.1, ∀ q ∈ S.lv, q.1 = h.1 → sKd q.2 = gKd (val h.1))
    (hp : ∀ p g, spAt P p = some g → (g.1 ≤ mu1 p ∧ mu1 p ≤ g.2) ∧ (sOut H.2.1 p → ∀ r', sAg S.nx r r' → sSays r' (sLook S.me p) p (mu1 p)))
    (hi : ∀ e ∈ H.2.1, ∀ h, e.2.2 = some h → h.1 ≤ mu1 e.1 ∧ mu1 e.1 ≤ h.2) (hm : ∀ p ∈ H.2.2.2.2, ∀ l, sVal P S p = some l → mu p ≤ mu1 p) :
    ∃ r1 lv1, sAg S.nx r r1 ∧ sD P r1 U lv1 sv mu1 ∧ ∀ x ∈ U.lv.zip lv1, (∃ h ∈ H.1, x.1.1 = h.1 ∧ x.2 = (h.1, val h.1)) ∨ (x ∈ S.lv.zip lv ∧ ∀ h ∈ H.1, x.1.1 ≠ h.1) := by
  obtain ⟨S1, T, e1, e2, rfl⟩ := sHead_eq e
  obtain ⟨r1, lv1, k1, k2, k4, k3⟩ := havL_to val _ _ _ _ _ hD e1 hv hk
  have hDm : sDm P r1 S1 lv1 sv mu1 H.2.1 := fun r' q => ⟨⟨(k2 r' q).1.1, (k2 r' q).1.2.2, fun p g hg => ⟨(hp p g hg).1, fun ho => by
    rw [k4.2.2.1]
    exact (hp p g hg).2 ho r' (k1.tr q k4.2.2.2.2.2)⟩⟩, (k2 r' q).2⟩
  obtain ⟨r2, m1, m2, m3⟩ := havM_to _ _ _ _ hDm e2 hi
  have ha : sAg S.nx r r2 := k1.tr m1 k4.2.2.2.2.2
  refine ⟨r2, lv1, ha, D_hd hD m2 ha (Nat.le_trans k4.2.2.2.2.2 m3.2.2.2.2.2) hm, fun x hx => k3 x ?_⟩
  have : x ∈ T.lv.zip lv1 := hx
  rw [m3.2.2.1] at this
  exact this
/-- the measure, in a frame -/
def gMs (l : List (Nat × sA)) (lv : List (Nat × gV)) (mu : gM) : List (Int × (Nat ⊕ Nat)) → Int
  | [] => 0
  | q :: r => q.1 * (match q.2 with
      | .inl i => match gAtL l lv i with
        | some (.inl (.inl x)) => x.toInt
        | _ => 0
      | .inr p => mu p) + gMs l lv mu r
theorem sMeas_ok {P : sP} {S : sS} {r : Nat → Int} {lv : List (Nat × gV)} {mu : gM} (h : sSat0 P r S lv mu) : ∀ (ms : List (Int × (Nat ⊕ Nat))) (m : sL), sMeas P S ms = some m → sEv r m = gMs S.lv lv mu ms
  | [], m, e => by
    cases e
    rw [sEv_K]
    rfl
  | (c, .inl i) :: t, m, e => by
    simp only [sMeas] at e
    split at e
    · rename_i l n c1 c2
      cases e
      split at c1
      · rename_i l' c3
        cases c1
        obtain ⟨v, v1, -, v3⟩ := gAtL_ok _ _ _ _ r h.1 c3
        rcases v with (x | x) | x
        · simp only [gMs]
          rw [v1, sEv_add, sEv_mul, sMeas_ok h t n c2, ← (show x.toInt = sEv r l from v3)]
        · cases v3
        · cases v3
      · cases c1
    · cases e
  | (c, .inr p) :: t, m, e => by
    simp only [sMeas] at e
    split at e
    · rename_i l n c1 c2
      cases e
      simp only [gMs]
      rw [sEv_add, sEv_mul, sMeas_ok h t n c2, sVal_ok' h.2.1 c1]
    · cases e
theorem gMs_eq {P : sP} {T : sS} {l' : List (Nat × sA)} {r : Nat → Int} {lv lv' : List (Nat × gV)} {mu : gM} (h : sSat0 P r T lv mu) (hx : ∀ i v, gAtL T.lv lv i = some v → gAtL l' lv' i = some v) : ∀ (ms : List (Int × (Nat ⊕ Nat))) (m : sL), sMeas P T ms = some m → gMs T.lv lv mu ms = gMs l' lv' mu ms
  | [], _, _ => rfl
  | (c, .inl i) :: t, m, e => by
    simp only [sMeas] at e
    split at e
    · rename_i l n c1 c2
      split at c1
      · rename_i l' c3
        obtain ⟨v, v1, -, -⟩ := gAtL_ok _ _ _ _ r h.1 c3
        simp only [gMs]
        rw [v1, hx i v v1, gMs_eq h hx t n c2]
      · cases c1
    · cases e
  | (c, .inr p) :: t, m, e => by
    simp only [sMeas] at e
    split at e
    · rename_i l n c1 c2
      simp only [gMs]
      rw [gMs_eq h hx t n c2]
    · cases e
theorem gAtL_zip : ∀ (l : List (Nat × sA)) (lv : List (Nat × gV)) (i : Nat) (v : gV), gAtL l lv i = some v → ∃ x ∈ l.zip lv, x.1.1 = i ∧ x.2.2 = v
  | [], lv, i, v, e => by cases e
  | q :: l, [], i, v, e => by cases e
  | q :: l, b :: lv, i, v, e => by
    simp only [gAtL] at e
    by_cases c : Nat.beq q.1 i = true
    · rw [if_pos c] at e
      cases e
      rw [Nat.beq_eq] at c
      exact ⟨(q, b), List.mem_cons_self, c, rfl⟩
    · rw [if_neg c] at e
      obtain ⟨x, h1, h2⟩ := gAtL_zip l lv i v e
      exact ⟨x, List.mem_cons_of_mem _ h1, h2⟩
theorem sRel_det {r : Nat → Int} {a : sA} {v w : gV} (h1 : sRel r a v) (h2 : sRel r a w) : v = w := by
  rcases a with (a | a) | a <;> rcases v with (v | v) | v <;> rcases w with (w | w) | w <;> first | (cases h1; done) | (cases h2; done) | skip
  · have : v.toInt = w.toInt := (show v.toInt = sEv r a from h1).trans (show w.toInt = sEv r a from h2).symm
    rw [Int32.toInt_inj.mp this]
  · have : v.toInt = w.toInt := (show v.toInt = sEv r a from h1).trans (show w.toInt = sEv r a from h2).symm
    rw [Int64.toInt_inj.mp this]
  · have a1 : a = v := h1
    have a2 : a = w := h2
    rw [← a1, ← a2]
theorem relS_det {r : Nat → Int} : ∀ (s : List sA) (v w : List gV), sRelS r s v → sRelS r s w → v = w
  | [], [], [], _, _ => rfl
  | [], _ :: _, _, h, _ => by cases h
  | [], [], _ :: _, _, h => by cases h
  | _ :: _, [], _, h, _ => by cases h
  | _ :: _, _ :: _, [], _, h => by cases h
  | a :: s, v :: vs, w :: ws, h1, h2 => by rw [sRel_det h1.1 h2.1, relS_det s vs ws h1.2 h2.2]
