/-! THE ENGINE IS SOUND: what a state says of a frame -/
def sRel (r : Nat → Int) : sA → gV → Prop
  | .inl (.inl l), .inl (.inl x) => x.toInt = sEv r l
  | .inl (.inr l), .inl (.inr x) => x.toInt = sEv r l
  | .inr o, .inr o' => o = o'
  | _, _ => False
def sRelL (r : Nat → Int) : List (Nat × sA) → List (Nat × gV) → Prop
  | [], [] => True
  | a :: s, b :: t => a.1 = b.1 ∧ sRel r a.2 b.2 ∧ sRelL r s t
  | _, _ => False
def sRelS (r : Nat → Int) : List sA → List gV → Prop
  | [], [] => True
  | a :: s, b :: t => sRel r a b ∧ sRelS r s t
  | _, _ => False
def sMeOK (P : sP) (r : Nat → Int) (me : sMem) (mu : gM) : Prop :=
  ∀ p h, spAt P p = some h → (h.1 ≤ mu p ∧ mu p ≤ h.2) ∧ (match sLook me p with | some (some l) => mu p = sEv r l | some none => True | none => mu p = r p)
def sMmOK (F : Nat → Int → gM → Int) (r : Nat → Int) (mm : sMm) (mu : gM) : Prop :=
  ∀ q ∈ mm, if q.1 < 1000000 then (0 ≤ sEv r q.2.2.1 → sEv r q.2.2.1 < (q.2.1 : Int) → mu (q.1 + (sEv r q.2.2.1).toNat) = sEv r q.2.2.2) else F q.1 (sEv r q.2.2.1) mu = sEv r q.2.2.2
def sSatB (P : sP) (F : Nat → Int → gM → Int) (r : Nat → Int) (S : sS) (lv : List (Nat × gV)) (mu : gM) : Prop := sRelL r S.lv lv ∧ sMeOK P r S.me mu ∧ sFx P r S ∧ sMmOK F r S.mm mu
def sAg (n : Nat) (r r' : Nat → Int) : Prop := ∀ i, i < n → r' i = r i
theorem sAg.rf (n : Nat) (r : Nat → Int) : sAg n r r := fun _ _ => rfl
theorem sAg.tr {n m : Nat} {r r' r'' : Nat → Int} (h1 : sAg n r r') (h2 : sAg m r' r'') (h : n ≤ m) : sAg n r r'' := fun i hi => (h2 i (Nat.lt_of_lt_of_le hi h)).trans (h1 i hi)
def sUp (r : Nat → Int) (k : Nat) (v : Int) : Nat → Int := fun i => if i = k then v else r i
theorem sUp_s {r : Nat → Int} {k : Nat} {v : Int} : sUp r k v k = v := if_pos rfl
theorem sUp_ag {r : Nat → Int} {k : Nat} {v : Int} : sAg k r (sUp r k v) := fun i hi => if_neg (by omega)
/-- a state is fit: from every frame that it describes the goal is reached -/
def sW (X : gX) (P : sP) (F : Nat → Int → gM → Int) (n0 : Nat) (r0 : Nat → Int) (S : sS) : Prop :=
  ∀ (r : Nat → Int) (lv : List (Nat × gV)) (st : List gV) (mu : gM), n0 ≤ S.nx → sAg n0 r0 r → (∀ r', sAg S.nx r r' → sSatB P F r' S lv mu ∧ sRelS r' S.st st) → gG X S.pc lv st mu
theorem i32_range (x : Int32) : i32l ≤ x.toInt ∧ x.toInt ≤ i32h := by
  have h1 := Int32.le_toInt x
  have h2 := Int32.toInt_lt x
  unfold i32l i32h
  constructor <;> omega
theorem i64_range (x : Int64) : i64l ≤ x.toInt ∧ x.toInt ≤ i64h := by
  have h1 := Int64.le_toInt x
  have h2 := Int64.toInt_lt x
  unfold i64l i64h
  constructor <;> omega
section SATW
variable {X : gX} {P : sP} {F : Nat → Int → gM → Int} {n0 : Nat} {r0 : Nat → Int}
theorem W_push {S : sS} {pc : Nat} {st : List sA} {a : sA} (hW : sW X P F n0 r0 (sPush S pc st a)) (hn : n0 ≤ S.nx) {r : Nat → Int} {lv : List (Nat × gV)} {sv : List gV} {mu : gM} {v : gV} (hr : sAg n0 r0 r) (hS : ∀ r', sAg S.nx r r' → sSatB P F r' S lv mu ∧ sRelS r' st sv) (ha : ∀ r', sAg S.nx r r' → sRel r' a v) : gG X pc lv (v :: sv) mu :=
  hW r lv (v :: sv) mu hn hr (fun r' h => ⟨(hS r' h).1, ha r' h, (hS r' h).2⟩)
theorem W_go {S : sS} {pc : Nat} {st : List sA} (hW : sW X P F n0 r0 (sGo S pc st)) (hn : n0 ≤ S.nx) {r : Nat → Int} {lv : List (Nat × gV)} {sv : List gV} {mu : gM} (hr : sAg n0 r0 r) (hS : ∀ r', sAg S.nx r r' → sSatB P F r' S lv mu ∧ sRelS r' st sv) : gG X pc lv sv mu :=
  hW r lv sv mu hn hr hS
/-- a state with one new symbol: its facts stay under the new valuation -/
theorem new_ok {S : sS} {lo hi v : Int} {r : Nat → Int} {lv : List (Nat × gV)} {mu : gM} {Z : (Nat → Int) → Prop} (hS : ∀ r', sAg S.nx r r' → sSatB P F r' S lv mu ∧ Z r') (h1 : lo ≤ v) (h2 : v ≤ hi) :
    ∀ r', sAg (S.nx + 1) (sUp r S.nx v) r' → sSatB P F r' (sNew S lo hi) lv mu ∧ Z r' ∧ r' S.nx = v := by
  intro r' h
  have h3 : sAg S.nx r r' := sUp_ag.tr h (Nat.le_succ _)
  have h4 : r' S.nx = v := (h S.nx (Nat.lt_succ_self _)).trans sUp_s
  obtain ⟨⟨a1, a2, ⟨a3, a4, a5⟩, a6⟩, a7⟩ := hS r' h3
  refine ⟨⟨a1, a2, ⟨fun q hq => ?_, a4, a5⟩, a6⟩, a7, h4⟩
  rcases List.mem_cons.mp hq with rfl | hq
  · simp only
    rw [h4]
    exact ⟨h1, h2⟩
  · exact a3 q hq
theorem W_newI {S : sS} {pc : Nat} {st : List sA} {lo hi : Int} (hW : sW X P F n0 r0 (sPush (sNew S lo hi) pc st (.inl (.inl (sY S.nx))))) (hn : n0 ≤ S.nx) {r : Nat → Int} {lv : List (Nat × gV)} {sv : List gV} {mu : gM} {z : Int32} (hr : sAg n0 r0 r) (hS : ∀ r', sAg S.nx r r' → sSatB P F r' S lv mu ∧ sRelS r' st sv) (h1 : lo ≤ z.toInt) (h2 : z.toInt ≤ hi) : gG X pc lv (gI z :: sv) mu := by
  refine hW (sUp r S.nx z.toInt) lv (gI z :: sv) mu (Nat.le_succ_of_le hn) (hr.tr sUp_ag hn) (fun r' h => ?_)
  obtain ⟨b1, b2, b3⟩ := new_ok hS h1 h2 r' h
  exact ⟨b1, (show z.toInt = sEv r' (sY S.nx) by rw [sEv_Y, b3]), b2⟩
theorem W_newL {S : sS} {pc : Nat} {st : List sA} {lo hi : Int} (hW : sW X P F n0 r0 (sPush (sNew S lo hi) pc st (.inl (.inr (sY S.nx))))) (hn : n0 ≤ S.nx) {r : Nat → Int} {lv : List (Nat × gV)} {sv : List gV} {mu : gM} {z : Int64} (hr : sAg n0 r0 r) (hS : ∀ r', sAg S.nx r r' → sSatB P F r' S lv mu ∧ sRelS r' st sv) (h1 : lo ≤ z.toInt) (h2 : z.toInt ≤ hi) : gG X pc lv (gL z :: sv) mu := by
  refine hW (sUp r S.nx z.toInt) lv (gL z :: sv) mu (Nat.le_succ_of_le hn) (hr.tr sUp_ag hn) (fun r' h => ?_)
  obtain ⟨b1, b2, b3⟩ := new_ok hS h1 h2 r' h
  exact ⟨b1, (show z.toInt = sEv r' (sY S.nx) by rw [sEv_Y, b3]), b2⟩
theorem W_putI {S : sS} {pc : Nat} {st : List sA} {l : sL} (hW : sW X P F n0 r0 (sPutI P S pc st l)) (hn : n0 ≤ S.nx) {r : Nat → Int} {lv : List (Nat × gV)} {sv : List gV} {mu : gM} {z : Int32} (hr : sAg n0 r0 r) (hS : ∀ r', sAg S.nx r r' → sSatB P F r' S lv mu ∧ sRelS r' st sv) (hz : ∀ r', sAg S.nx r r' → i32l ≤ sEv r' l → sEv r' l ≤ i32h → z.toInt = sEv r' l) : gG X pc lv (gI z :: sv) mu := by
  unfold sPutI at hW
  have hz2 := i32_range z
  cases c : sB P S.iv l with
  | none =>
    rw [c] at hW
    exact W_newI hW hn hr hS hz2.1 hz2.2
  | some g =>
    rw [c] at hW
    simp only at hW
    by_cases hc : i32l ≤ g.1 ∧ g.2 ≤ i32h
    · rw [if_pos hc] at hW
      refine W_push hW hn hr hS (fun r' h => ?_)
      have hF := (hS r' h).1.2.2.1
      have := sB_ok hF.1 hF.2.2 c
      exact hz r' h (by omega) (by omega)
    · rw [if_neg hc] at hW
      exact W_newI hW hn hr hS hz2.1 hz2.2
theorem W_putL {S : sS} {pc : Nat} {st : List sA} {l : sL} (hW : sW X P F n0 r0 (sPutL P S pc st l)) (hn : n0 ≤ S.nx) {r : Nat → Int} {lv : List (Nat × gV)} {sv : List gV} {mu : gM} {z : Int64} (hr : sAg n0 r0 r) (hS : ∀ r', sAg S.nx r r' → sSatB P F r' S lv mu ∧ sRelS r' st sv) (hz : ∀ r', sAg S.nx r r' → i64l ≤ sEv r' l → sEv r' l ≤ i64h → z.toInt = sEv r' l) : gG X pc lv (gL z :: sv) mu := by
  unfold sPutL at hW
  have hz2 := i64_range z
  cases c : sB P S.iv l with
  | none =>
    rw [c] at hW
    exact W_newL hW hn hr hS hz2.1 hz2.2
  | some g =>
    rw [c] at hW
    simp only at hW
    by_cases hc : i64l ≤ g.1 ∧ g.2 ≤ i64h
    · rw [if_pos hc] at hW
      refine W_push hW hn hr hS (fun r' h => ?_)
      have hF := (hS r' h).1.2.2.1
      have := sB_ok hF.1 hF.2.2 c
      exact hz r' h (by omega) (by omega)
    · rw [if_neg hc] at hW
      exact W_newL hW hn hr hS hz2.1 hz2.2
theorem W_anyI {S : sS} {pc : Nat} {st : List sA} {lo hi : Int} (hW : sW X P F n0 r0 (sAnyI S pc st lo hi)) (hn : n0 ≤ S.nx) {r : Nat → Int} {lv : List (Nat × gV)} {sv : List gV} {mu : gM} {z : Int32} (hr : sAg n0 r0 r) (hS : ∀ r', sAg S.nx r r' → sSatB P F r' S lv mu ∧ sRelS r' st sv) (h1 : lo ≤ z.toInt) (h2 : z.toInt ≤ hi) : gG X pc lv (gI z :: sv) mu := by
  unfold sAnyI at hW
  by_cases hc : lo = hi
  · rw [if_pos hc] at hW
    exact W_push hW hn hr hS (fun r' h => (show z.toInt = sEv r' (sK lo) by rw [sEv_K]; omega))
  · rw [if_neg hc] at hW
    exact W_newI hW hn hr hS h1 h2
theorem W_anyL {S : sS} {pc : Nat} {st : List sA} {lo hi : Int} (hW : sW X P F n0 r0 (sAnyL S pc st lo hi)) (hn : n0 ≤ S.nx) {r : Nat → Int} {lv : List (Nat × gV)} {sv : List gV} {mu : gM} {z : Int64} (hr : sAg n0 r0 r) (hS : ∀ r', sAg S.nx r r' → sSatB P F r' S lv mu ∧ sRelS r' st sv) (h1 : lo ≤ z.toInt) (h2 : z.toInt ≤ hi) : gG X pc lv (gL z :: sv) mu := by
  unfold sAnyL at hW
  by_cases hc : lo = hi
  · rw [if_pos hc] at hW
    exact W_push hW hn hr hS (fun r' h => (show z.toInt = sEv r' (sK lo) by rw [sEv_K]; omega))
  · rw [if_neg hc] at hW
    exact W_newL hW hn hr hS h1 h2
/-- a learnt fact: the state T that is S but for what is known -/
theorem W_eqv {S T : sS} (hW : sW X P F n0 r0 T) (hq : sEqv S T) (hn : n0 ≤ S.nx) {r : Nat → Int} {lv : List (Nat × gV)} {sv : List gV} {mu : gM} (hr : sAg n0 r0 r) (hS : ∀ r', sAg S.nx r r' → sSatB P F r' S lv mu ∧ sRelS r' S.st sv) (hF : ∀ r', sAg S.nx r r' → sFx P r' T) : gG X S.pc lv sv mu := by
  obtain ⟨q1, q2, q3, q4, q5, q6⟩ := hq
  have h := hW r lv sv mu (by rw [q5]; exact hn) hr (fun r' h => by
    rw [q5] at h
    obtain ⟨⟨a1, a2, -, a4⟩, a5⟩ := hS r' h
    refine ⟨⟨?_, ?_, hF r' h, ?_⟩, ?_⟩
    · rw [q2]; exact a1
    · rw [q4]; exact a2
    · rw [q6]; exact a4
    · rw [q3]; exact a5)
  rw [q1] at h
  exact h
/-- one way of a branch -/
theorem W_cond {S : sS} {d : sL} {cd : Jvm.ClassFile.Cond} {tgt : Nat} (hW : ∀ T, (sCond P S d cd).map (fun T => sAt T tgt) = some T → sW X P F n0 r0 T) (hn : n0 ≤ S.nx) {r : Nat → Int} {lv : List (Nat × gV)} {sv : List gV} {mu : gM} (hr : sAg n0 r0 r) (hS : ∀ r', sAg S.nx r r' → sSatB P F r' S lv mu ∧ sRelS r' S.st sv) (hc : ∀ r', sAg S.nx r r' → icond cd (sEv r' d)) : gG X tgt lv sv mu := by
  obtain ⟨T, e1, k1, q1⟩ := sCond_ok (hS r (sAg.rf _ _)).1.2.2.1 (hc r (sAg.rf _ _))
  have hT := hW (sAt T tgt) (by rw [e1]; rfl)
  have := W_eqv (S := sAt S tgt) hT ⟨rfl, q1.2.1, q1.2.2.1, q1.2.2.2.1, q1.2.2.2.2.1, q1.2.2.2.2.2⟩ hn hr hS (fun r' h => by
    obtain ⟨T', e2, k2, q2⟩ := sCond_ok (hS r' h).1.2.2.1 (hc r' h)
    cases e1.symm.trans e2
    exact k2)
  exact this
theorem W_branch {S : sS} {d : sL} {cd : Jvm.ClassFile.Cond} {tgt next : Nat} (hW : ∀ T ∈ sBranch P S d cd tgt next, sW X P F n0 r0 T) (hn : n0 ≤ S.nx) {r : Nat → Int} {lv : List (Nat × gV)} {sv : List gV} {mu : gM} (hr : sAg n0 r0 r) (hS : ∀ r', sAg S.nx r r' → sSatB P F r' S lv mu ∧ sRelS r' S.st sv) {v : Int} (hv : ∀ r', sAg S.nx r r' → sEv r' d = v) :
    (icond cd v → gG X tgt lv sv mu) ∧ (¬ icond cd v → gG X next lv sv mu) := by
  constructor
  · intro h
    refine W_cond (cd := cd) (d := d) (fun T e => hW T ?_) hn hr hS (fun r' h' => by rw [hv r' h']; exact h)
    unfold sBranch
    rw [e]
    exact List.mem_append_left _ List.mem_cons_self
  · intro h
    refine W_cond (cd := sNot cd) (d := d) (fun T e => hW T ?_) hn hr hS (fun r' h' => by rw [hv r' h']; exact icond_not h)
    unfold sBranch
    rw [e]
    exact List.mem_append_right _ List.mem_cons_self
end SATW
