/-! THE ENGINE IS SOUND: calls by contract -/
def gArgOK : List sG → List gV → Prop
  | [], [] => True
  | .inl h :: r, .inl (.inl z) :: s => (h.1 ≤ z.toInt ∧ z.toInt ≤ h.2) ∧ gArgOK r s
  | .inr (.inl h) :: r, .inl (.inr z) :: s => (h.1 ≤ z.toInt ∧ z.toInt ≤ h.2) ∧ gArgOK r s
  | .inr (.inr o) :: r, .inr o' :: s => o = o' ∧ gArgOK r s
  | _, _ => False
def gProf (P : sP) (mu : gM) : Prop := ∀ p g, spAt P p = some g → g.1 ≤ mu p ∧ mu p ≤ g.2
/-- a contract stands at a call of this frame -/
def sGiv (X : gX) (P : sP) (F : Nat → Int → gM → Int) (M : Nat) (ins : Instr) (c : sC) : Prop :=
  ∀ (pc : Nat) (lv : List (Nat × gV)) (av sv : List gV) (mu : gM), decode (gXy X) pc = .ok (ins, 3) → gArgOK c.1 av → gProf P mu → (∀ h ∈ c.2.1, h.2.1 ≤ mu h.1 ∧ mu h.1 ≤ h.2.2) → (sv.map gcat).sum ≤ 8 →
    (∀ x ∈ c.2.2.2, ∀ ret mu', sXOK M P F av mu x ret mu' → gG X (pc + 3) lv (retS ret sv) mu') → gG X pc lv (av.reverse ++ sv) mu
theorem sArgOk_ok {P : sP} {S : sS} {r : Nat → Int} (hF : sFx P r S) : ∀ (gs : List sG) (as : List sA) (av : List gV), sArgOk P S gs as = true → sRelS r as av → gArgOK gs av
  | [], [], [], _, _ => trivial
  | [], [], _ :: _, _, h => by cases h
  | [], _ :: _, _, e, _ => by cases e
  | g :: gs, [], _, e, _ => by rcases g with g | g | g <;> cases e
  | g :: gs, a :: as, [], _, h => by cases h
  | g :: gs, a :: as, v :: av, e, h => by
    rcases g with g | g | g <;> rcases a with (a | a) | a <;> first | (cases e; done) | skip
    · simp only [sArgOk, Bool.and_eq_true] at e
      rcases v with (v | v) | v
      · have b := sRanged_ok hF.1 hF.2.2 e.1
        rw [← (show v.toInt = sEv r a from h.1)] at b
        exact ⟨b, sArgOk_ok hF gs as av e.2 h.2⟩
      · cases h.1
      · cases h.1
    · simp only [sArgOk, Bool.and_eq_true] at e
      rcases v with (v | v) | v
      · cases h.1
      · have b := sRanged_ok hF.1 hF.2.2 e.1
        rw [← (show v.toInt = sEv r a from h.1)] at b
        exact ⟨b, sArgOk_ok hF gs as av e.2 h.2⟩
      · cases h.1
    · simp only [sArgOk, Bool.and_eq_true] at e
      rcases v with (v | v) | v
      · cases h.1
      · cases h.1
      · exact ⟨(oEq_ok e.1).trans h.1, sArgOk_ok hF gs as av e.2 h.2⟩
theorem relS_len {r : Nat → Int} : ∀ (s : List sA) (v : List gV), sRelS r s v → s.length = v.length
  | [], [], _ => rfl
  | [], _ :: _, h => by cases h
  | _ :: _, [], h => by cases h
  | _ :: s, _ :: v, h => by rw [List.length_cons, List.length_cons, relS_len s v h.2]
theorem relS_take {r : Nat → Int} : ∀ (n : Nat) (s : List sA) (v : List gV), sRelS r s v → sRelS r (s.take n) (v.take n)
  | 0, _, _, _ => trivial
  | n + 1, [], [], _ => trivial
  | n + 1, [], _ :: _, h => by cases h
  | n + 1, _ :: _, [], h => by cases h
  | n + 1, _ :: s, _ :: v, h => ⟨h.1, relS_take n s v h.2⟩
theorem relS_drop {r : Nat → Int} : ∀ (n : Nat) (s : List sA) (v : List gV), sRelS r s v → sRelS r (s.drop n) (v.drop n)
  | 0, _, _, h => h
  | n + 1, [], [], _ => trivial
  | n + 1, [], _ :: _, h => by cases h
  | n + 1, _ :: _, [], h => by cases h
  | n + 1, _ :: s, _ :: v, h => relS_drop n s v h.2
theorem relS_app {r : Nat → Int} : ∀ (s : List sA) (v : List gV) (a : sA) (w : gV), sRelS r s v → sRel r a w → sRelS r (s ++ [a]) (v ++ [w])
  | [], [], _, _, _, h => ⟨h, trivial⟩
  | [], _ :: _, _, _, h, _ => by cases h
  | _ :: _, [], _, _, h, _ => by cases h
  | _ :: s, _ :: v, a, w, h, h2 => ⟨h.1, relS_app s v a w h.2 h2⟩
theorem relS_rev {r : Nat → Int} : ∀ (s : List sA) (v : List gV), sRelS r s v → sRelS r s.reverse v.reverse
  | [], [], _ => trivial
  | [], _ :: _, h => by cases h
  | _ :: _, [], h => by cases h
  | a :: s, b :: v, h => by
    rw [List.reverse_cons, List.reverse_cons]
    exact relS_app _ _ _ _ (relS_rev s v h.2) h.1
theorem relS_cat {r : Nat → Int} : ∀ (s : List sA) (v : List gV), sRelS r s v → s.map sCat = v.map gcat
  | [], [], _ => rfl
  | [], _ :: _, h => by cases h
  | _ :: _, [], h => by cases h
  | a :: s, b :: v, h => by rw [List.map_cons, List.map_cons, sRel_cat h.1, relS_cat s v h.2]
theorem sPick_ok {P : sP} {S : sS} {as : List sA} : ∀ (cs : List (Nat × sC)) (c : Nat × sC), sPick P S as cs = some c → c ∈ cs ∧ sArgOk P S c.2.1 as = true ∧ ∀ h ∈ c.2.2.1, sPreOk P S h = true
  | [], _, e => by cases e
  | d :: t, c, e => by
    simp only [sPick] at e
    split at e
    · rename_i q
      cases e
      simp only [Bool.and_eq_true, List.all_eq_true] at q
      exact ⟨List.mem_cons_self, q.1, q.2⟩
    · have := sPick_ok t c e
      exact ⟨List.mem_cons_of_mem _ this.1, this.2⟩
theorem sExits_ok {M : Nat} {P : sP} {S : sS} {as : List sA} : ∀ (xs : List sX) (L : List sS), sExits M P S as xs = some L → ∀ x ∈ xs, ∃ L', sExit M P S as x = some L' ∧ ∀ T ∈ L', T ∈ L
  | [], _, _, x, hx => absurd hx List.not_mem_nil
  | y :: t, L, e, x, hx => by
    simp only [sExits] at e
    split at e
    · rename_i a b c1 c2
      cases e
      rcases List.mem_cons.mp hx with rfl | hx
      · exact ⟨a, c1, fun T hT => List.mem_append_left _ hT⟩
      · obtain ⟨L', h1, h2⟩ := sExits_ok t b c2 x hx
        exact ⟨L', h1, fun T hT => List.mem_append_right _ (h2 T hT)⟩
    · cases e
section CALLS
variable {X : gX} {P : sP} {F : Nat → Int → gM → Int} {M : Nat}
theorem sMat_ok {lv : List (Nat × gV)} {sv : List gV} {mu : gM} (h01 : ∀ j ∈ sGh, 0 ≤ F (sGk j) 0 mu ∧ F (sGk j) 0 mu ≤ 1) : ∀ (ps : List Nat) (S S1 : sS) (r : Nat → Int), (∀ r', sAg S.nx r r' → sSatB P F r' S lv mu ∧ sRelS r' S.st sv) → sMat M P ps S = some S1 → ∃ r1, sAg S.nx r r1 ∧ S.nx ≤ S1.nx ∧ S1.pc = S.pc ∧ ∀ r', sAg S1.nx r1 r' → sSatB P F r' S1 lv mu ∧ sRelS r' S1.st sv
  | [], S, S1, r, hS, e => by
    cases e
    exact ⟨r, sAg.rf _ _, Nat.le_refl _, rfl, hS⟩
  | p :: t, S, S1, r, hS, e => by
    simp only [sMat] at e
    split at e
    · split at e
      · cases e
      · rename_i j cj
        split at e
        · exact sMat_ok h01 t S S1 r hS e
        · have b := h01 j (List.mem_of_getElem? cj)
          have hj : ¬ (sGk j < 1000000) := by unfold sGk; omega
          obtain ⟨r1, k1, k2, k3, k4⟩ := sMat_ok h01 t (S.pc, S.lv, S.st, S.me, (S.nx, 0, 1) :: S.iv, S.li, S.nx + 1, (sGk j, 0, sK 0, sY S.nx) :: S.mm) S1 (sUp r S.nx (F (sGk j) 0 mu)) (fun r' q => by
            obtain ⟨m1, m2, m3⟩ := new_ok hS b.1 b.2 r' q
            refine ⟨⟨m1.1, m1.2.1, m1.2.2.1, fun x hx => ?_⟩, m2⟩
            rcases List.mem_cons.mp hx with rfl | hx
            · simp only
              rw [if_neg hj, sEv_K, sEv_Y, m3]
            · exact m1.2.2.2 x hx) e
          exact ⟨r1, sUp_ag.tr k1 (Nat.le_succ _), Nat.le_trans (Nat.le_succ _) k2, k3, k4⟩
    · split at e
      · split at e
        · rename_i h ch
          have b := ((hS r (sAg.rf _ _)).1.2.1 p h ch).1
          obtain ⟨r1, k1, k2, k3, k4⟩ := sMat_ok h01 t (S.pc, S.lv, S.st, (p, p, some (sY S.nx)) :: S.me, (S.nx, h.1, h.2) :: S.iv, S.li, S.nx + 1, S.mm) S1 (sUp r S.nx (mu p)) (fun r' q => by
            obtain ⟨m1, m2, m3⟩ := new_ok hS b.1 b.2 r' q
            refine ⟨⟨m1.1, fun p' g hg => ⟨(m1.2.1 p' g hg).1, ?_⟩, m1.2.2.1, m1.2.2.2⟩, m2⟩
            show (match sLook ((p, p, some (sY S.nx)) :: S.me) p' with | some (some l) => mu p' = sEv r' l | some none => True | none => mu p' = r' p')
            rw [sLook_cons]
            by_cases c : p ≤ p' ∧ p' ≤ p
            · rw [if_pos c]
              have : p' = p := by omega
              simp only
              rw [sEv_Y, m3, this]
            · rw [if_neg c]
              exact (m1.2.1 p' g hg).2) e
          exact ⟨r1, sUp_ag.tr k1 (Nat.le_succ _), Nat.le_trans (Nat.le_succ _) k2, k3, k4⟩
        · cases e
      · exact sMat_ok h01 t S S1 r hS e
/-- as sGiv, with more said of what comes back -/
def sGivQ (X : gX) (P : sP) (F : Nat → Int → gM → Int) (M : Nat) (ins : Instr) (Qf : List gV → gM → Option gV → gM → Prop) (c : sC) : Prop :=
  ∀ (pc : Nat) (lv : List (Nat × gV)) (av sv : List gV) (mu : gM), decode (gXy X) pc = .ok (ins, 3) → gArgOK c.1 av → gProf P mu → (∀ h ∈ c.2.1, h.2.1 ≤ mu h.1 ∧ mu h.1 ≤ h.2.2) → (sv.map gcat).sum ≤ 8 →
    (∀ x ∈ c.2.2.2, ∀ ret mu', sXOK M P F av mu x ret mu' → Qf av mu ret mu' → gG X (pc + 3) lv (retS ret sv) mu') → gG X pc lv (av.reverse ++ sv) mu
theorem sCallC_at {Y : sY1} {S : sS} {n : Nat} {cs : List (Nat × sC)} {L : List sS} (h01 : ∀ mu, ∀ j ∈ sGh, 0 ≤ F (sGk j) 0 mu ∧ F (sGk j) 0 mu ≤ 1) (e : sCallC Y S n cs = some L) {r : Nat → Int} {lv : List (Nat × gV)} {sv : List gV} {mu : gM} (hS : ∀ r', sAg S.nx r r' → sSatB Y.E.P F r' S lv mu ∧ sRelS r' S.st sv) :
    ∃ c ∈ cs, gArgOK c.2.1 (sv.take n).reverse ∧ gProf Y.E.P mu ∧ (∀ h ∈ c.2.2.1, h.2.1 ≤ mu h.1 ∧ mu h.1 ≤ h.2.2) ∧ ((sv.drop n).map gcat).sum ≤ 8 ∧
      ∀ x ∈ c.2.2.2.2, ∀ ret mu', sXOK Y.M Y.E.P F (sv.take n).reverse mu x ret mu' → ∀ (n1 : Nat) (r1 : Nat → Int) (Q : List gV → gM → Prop), n1 ≤ S.nx → sAg n1 r1 r → (∀ T ∈ L, sWQ X Y.E.P F n1 r1 Q T) → Q (retS ret (sv.drop n)) mu' → gG X (S.pc + 3) lv (retS ret (sv.drop n)) mu' := by
  unfold sCallC at e
  simp only at e
  split at e
  · rename_i c0
    simp only [Bool.and_eq_true, Nat.ble_eq] at c0
    split at e
    · cases e
    · rename_i c c1
      split at e
      · cases e
      · rename_i S1 c2
        obtain ⟨p1, p2, p3⟩ := sPick_ok _ _ c1
        have h0 := hS r (sAg.rf _ _)
        have hav : ∀ r', sAg S.nx r r' → sRelS r' (S.st.take n).reverse (sv.take n).reverse := fun r' q => relS_rev _ _ (relS_take n _ _ (hS r' q).2)
        have hdr : ∀ r', sAg S.nx r r' → sSatB Y.E.P F r' (S.pc + 3, S.lv, S.st.drop n, S.me, S.iv, S.li, S.nx, S.mm) lv mu ∧ sRelS r' (S.st.drop n) (sv.drop n) := fun r' q => ⟨(hS r' q).1, relS_drop n _ _ (hS r' q).2⟩
        obtain ⟨r1, k1, k2, k3, k4⟩ := sMat_ok (h01 mu) _ _ _ _ hdr c2
        have k1' : sAg S.nx r r1 := k1
        have k2' : S.nx ≤ S1.nx := k2
        have k3' : S1.pc = S.pc + 3 := k3
        refine ⟨c, p1, sArgOk_ok h0.1.2.2.1 _ _ _ p2 (hav r (sAg.rf _ _)), fun p g hp => (h0.1.2.1 p g hp).1, fun h hh => sValIn_ok h0.1.2.1 h0.1.2.2.1 (p3 h hh), by rw [← relS_cat _ _ (relS_drop n _ _ h0.2)]; exact c0.2, fun x hx ret mu' hq n1 ra Q hn hr hW hQ => ?_⟩
        obtain ⟨L', e1, e2⟩ := sExits_ok _ _ e x hx
        have g := sExit_ok e1 (fun T hT => hW T (e2 T hT)) (Nat.le_trans hn k2') (hr.tr k1' hn) k4 (fun r' q => hav r' (k1'.tr q k2')) hq hQ
        rw [k3'] at g
        exact g
  · cases e
theorem sCallC_ok {Y : sY1} {S : sS} {n : Nat} {cs : List (Nat × sC)} {L : List sS} {ins : Instr} {n0 : Nat} {r0 : Nat → Int} (h01 : ∀ mu, ∀ j ∈ sGh, 0 ≤ F (sGk j) 0 mu ∧ F (sGk j) 0 mu ≤ 1) (hd : decode (gXy X) S.pc = .ok (ins, 3)) (hc : ∀ c ∈ cs, sGiv X Y.E.P F Y.M ins c.2) (e : sCallC Y S n cs = some L) (hW : ∀ T ∈ L, sW X Y.E.P F n0 r0 T) : sW X Y.E.P F n0 r0 S := by
  intro r lv sv mu hn hr hS
  obtain ⟨c, p1, p2, p3, p4, p5, p6⟩ := sCallC_at (X := X) h01 e hS
  have g := hc c p1 S.pc lv (sv.take n).reverse (sv.drop n) mu hd p2 p3 p4 p5 (fun x hx ret mu' hq => p6 x hx ret mu' hq n0 r0 (fun _ _ => True) hn hr (fun T hT r lv st mu b1 b2 b3 _ => hW T hT r lv st mu b1 b2 b3) trivial)
  rw [List.reverse_reverse, List.take_append_drop] at g
  exact g
end CALLS
