/-! THE ENGINE IS SOUND, instruction by instruction: constants, locals -/
def sCodeOK (X : gX) (code : sCode) : Prop := ∀ p q, cAt code p = some q → decode (gXy X) p = .ok q
theorem relL_lk {r : Nat → Int} : ∀ (l : List (Nat × sA)) (lv : List (Nat × gV)) (i : Nat) (a : sA), sRelL r l lv → sLk l i = some a → ∃ v, (i, v) ∈ lv ∧ sRel r a v
  | [], _, _, _, _, e => by cases e
  | q :: l, [], _, _, h, _ => by cases h
  | q :: l, b :: lv, i, a, h, e => by
    simp only [sLk] at e
    obtain ⟨h1, h2, h3⟩ := h
    by_cases c : Nat.beq q.1 i = true
    · rw [if_pos c] at e
      cases e
      rw [Nat.beq_eq] at c
      exact ⟨b.2, by rw [← c, h1]; exact List.mem_cons_self, h2⟩
    · rw [if_neg c] at e
      obtain ⟨v, h4, h5⟩ := relL_lk l lv i a h3 e
      exact ⟨v, List.mem_cons_of_mem _ h4, h5⟩
/-- which value of the locals is read hangs on their shape only -/
def gAtL : List (Nat × sA) → List (Nat × gV) → Nat → Option gV
  | q :: l, b :: lv, i => if Nat.beq q.1 i then some b.2 else gAtL l lv i
  | _, _, _ => none
theorem gAtL_ok : ∀ (l : List (Nat × sA)) (lv : List (Nat × gV)) (i : Nat) (a : sA) (r : Nat → Int), sRelL r l lv → sLk l i = some a → ∃ v, gAtL l lv i = some v ∧ (i, v) ∈ lv ∧ sRel r a v
  | [], _, _, _, _, _, e => by cases e
  | q :: l, [], _, _, _, h, _ => by cases h
  | q :: l, b :: lv, i, a, r, h, e => by
    simp only [sLk] at e
    obtain ⟨h1, h2, h3⟩ := h
    by_cases c : Nat.beq q.1 i = true
    · rw [if_pos c] at e
      cases e
      refine ⟨b.2, by simp only [gAtL]; rw [if_pos c], ?_, h2⟩
      rw [Nat.beq_eq] at c
      rw [← c, h1]
      exact List.mem_cons_self
    · rw [if_neg c] at e
      obtain ⟨v, h4, h5, h6⟩ := gAtL_ok l lv i a r h3 e
      exact ⟨v, by simp only [gAtL]; rw [if_neg c]; exact h4, List.mem_cons_of_mem _ h5, h6⟩
theorem sRel_cat {r : Nat → Int} {a : sA} {v : gV} (h : sRel r a v) : sCat a = gcat v := by
  rcases a with (a | a) | a <;> rcases v with (v | v) | v <;> first | rfl | cases h
theorem relL_filter {r : Nat → Int} (f : Nat → Nat → Bool) : ∀ (l : List (Nat × sA)) (lv : List (Nat × gV)), sRelL r l lv → sRelL r (l.filter (fun q => f q.1 (sCat q.2))) (lv.filter (fun q => f q.1 (gcat q.2)))
  | [], [], _ => trivial
  | [], _ :: _, h => by cases h
  | _ :: _, [], h => by cases h
  | q :: l, b :: lv, h => by
    obtain ⟨h1, h2, h3⟩ := h
    have ih := relL_filter f l lv h3
    have e : f q.1 (sCat q.2) = f b.1 (gcat b.2) := by rw [h1, sRel_cat h2]
    by_cases c : f b.1 (gcat b.2) = true
    · rw [List.filter_cons_of_pos (by rw [e]; exact c), List.filter_cons_of_pos (p := fun q : Nat × gV => f q.1 (gcat q.2)) c]
      exact ⟨h1, h2, ih⟩
    · rw [List.filter_cons_of_neg (by rw [e]; exact c), List.filter_cons_of_neg (p := fun q : Nat × gV => f q.1 (gcat q.2)) c]
      exact ih
theorem relL_st1 {r : Nat → Int} {l : List (Nat × sA)} {lv : List (Nat × gV)} (h : sRelL r l lv) (i : Nat) {a : sA} {v : gV} (ha : sRel r a v) : sRelL r (sSt1 l i a) (gst1 lv i v) :=
  ⟨rfl, ha, relL_filter (fun n c => !(n == i) && !(n + 1 == i && c == 2)) l lv h⟩
theorem relL_st2 {r : Nat → Int} {l : List (Nat × sA)} {lv : List (Nat × gV)} (h : sRelL r l lv) (i : Nat) {a : sA} {v : gV} (ha : sRel r a v) : sRelL r (sSt2 l i a) (gst2 lv i v) :=
  ⟨rfl, ha, relL_filter (fun n c => !(n == i) && (!(n == i + 1) && !(n + 1 == i && c == 2))) l lv h⟩
theorem popI {Z : (Nat → Int) → Prop} {r : Nat → Int} {n : Nat} {y : sL} {s : List sA} {sv : List gV} (h : ∀ r', sAg n r r' → Z r' ∧ sRelS r' (.inl (.inl y) :: s) sv) : ∃ z sv', sv = gI z :: sv' ∧ (∀ r', sAg n r r' → Z r' ∧ sRelS r' s sv') ∧ ∀ r', sAg n r r' → z.toInt = sEv r' y := by
  have h0 := (h r (sAg.rf _ _)).2
  rcases sv with _ | ⟨(z | z) | z, sv⟩
  · cases h0
  · exact ⟨z, sv, rfl, fun r' q => ⟨(h r' q).1, (h r' q).2.2⟩, fun r' q => (h r' q).2.1⟩
  · cases h0.1
  · cases h0.1
theorem popL {Z : (Nat → Int) → Prop} {r : Nat → Int} {n : Nat} {y : sL} {s : List sA} {sv : List gV} (h : ∀ r', sAg n r r' → Z r' ∧ sRelS r' (.inl (.inr y) :: s) sv) : ∃ z sv', sv = gL z :: sv' ∧ (∀ r', sAg n r r' → Z r' ∧ sRelS r' s sv') ∧ ∀ r', sAg n r r' → z.toInt = sEv r' y := by
  have h0 := (h r (sAg.rf _ _)).2
  rcases sv with _ | ⟨(z | z) | z, sv⟩
  · cases h0
  · cases h0.1
  · exact ⟨z, sv, rfl, fun r' q => ⟨(h r' q).1, (h r' q).2.2⟩, fun r' q => (h r' q).2.1⟩
  · cases h0.1
theorem popR {Z : (Nat → Int) → Prop} {r : Nat → Int} {n : Nat} {o : Option Nat} {s : List sA} {sv : List gV} (h : ∀ r', sAg n r r' → Z r' ∧ sRelS r' (.inr o :: s) sv) : ∃ sv', sv = .inr o :: sv' ∧ (∀ r', sAg n r r' → Z r' ∧ sRelS r' s sv') := by
  have h0 := (h r (sAg.rf _ _)).2
  rcases sv with _ | ⟨(z | z) | z, sv⟩
  · cases h0
  · cases h0.1
  · cases h0.1
  · have : o = z := h0.1
    subst this
    exact ⟨sv, rfl, fun r' q => ⟨(h r' q).1, (h r' q).2.2⟩⟩
section STEPA
variable {X : gX} {E : sE} {F : Nat → Int → gM → Int} {n0 : Nat} {r0 : Nat → Int} {code : sCode} {S : sS} {L : List sS}
theorem e_iconst (h : gOK X) {k : Int} (hd : decode (gXy X) S.pc = .ok (.iconst k, 1)) (e : sStep1 E code S (.iconst k) 1 = some L) (hW : ∀ T ∈ L, sW X E.P F n0 r0 T) : sW X E.P F n0 r0 S := by
  intro r lv sv mu hn hr hS
  obtain ⟨pc, sl, st, me, iv, li, nx, mm⟩ := S
  have e1 : okB (decide (i32l ≤ k) && decide (k ≤ i32h)) (one (sPush (pc, sl, st, me, iv, li, nx, mm) (pc + 1) st (.inl (.inl (sK k))))) = some L := e
  unfold okB at e1
  split at e1
  · rename_i c
    simp only [Bool.and_eq_true, decide_eq_true_eq] at c
    cases e1
    exact g_iconst h hd (W_push (hW _ List.mem_cons_self) hn hr hS (fun r' _ => by show (Int32.ofInt k).toInt = sEv r' (sK k); rw [sEv_K, of_i32 c.1 c.2]))
  · cases e1
theorem e_bipush (h : gOK X) {k : Int} (hd : decode (gXy X) S.pc = .ok (.bipush k, 2)) (e : sStep1 E code S (.bipush k) 2 = some L) (hW : ∀ T ∈ L, sW X E.P F n0 r0 T) : sW X E.P F n0 r0 S := by
  intro r lv sv mu hn hr hS
  obtain ⟨pc, sl, st, me, iv, li, nx, mm⟩ := S
  have e1 : okB (decide (-128 ≤ k) && decide (k ≤ 127)) (one (sPush (pc, sl, st, me, iv, li, nx, mm) (pc + 2) st (.inl (.inl (sK k))))) = some L := e
  unfold okB at e1
  split at e1
  · rename_i c
    simp only [Bool.and_eq_true, decide_eq_true_eq] at c
    cases e1
    exact g_bipush h hd (W_push (hW _ List.mem_cons_self) hn hr hS (fun r' _ => by show ((Int8.ofInt k).toInt32).toInt = sEv r' (sK k); rw [sEv_K, Int8.toInt_toInt32, Int8.toInt_ofInt_of_le (by omega) (by omega)]))
  · cases e1
theorem e_sipush (h : gOK X) {k : Int} (hd : decode (gXy X) S.pc = .ok (.sipush k, 3)) (e : sStep1 E code S (.sipush k) 3 = some L) (hW : ∀ T ∈ L, sW X E.P F n0 r0 T) : sW X E.P F n0 r0 S := by
  intro r lv sv mu hn hr hS
  obtain ⟨pc, sl, st, me, iv, li, nx, mm⟩ := S
  have e1 : okB (decide (-32768 ≤ k) && decide (k ≤ 32767)) (one (sPush (pc, sl, st, me, iv, li, nx, mm) (pc + 3) st (.inl (.inl (sK k))))) = some L := e
  unfold okB at e1
  split at e1
  · rename_i c
    simp only [Bool.and_eq_true, decide_eq_true_eq] at c
    cases e1
    exact g_sipush h hd (W_push (hW _ List.mem_cons_self) hn hr hS (fun r' _ => by show ((Int16.ofInt k).toInt32).toInt = sEv r' (sK k); rw [sEv_K, Int16.toInt_toInt32, Int16.toInt_ofInt_of_le (by omega) (by omega)]))
  · cases e1
theorem e_lconst (h : gOK X) {k : Fin 2} (hd : decode (gXy X) S.pc = .ok (.lconst k, 1)) (e : sStep1 E code S (.lconst k) 1 = some L) (hW : ∀ T ∈ L, sW X E.P F n0 r0 T) : sW X E.P F n0 r0 S := by
  intro r lv sv mu hn hr hS
  obtain ⟨pc, sl, st, me, iv, li, nx, mm⟩ := S
  have e1 : one (sPush (pc, sl, st, me, iv, li, nx, mm) (pc + 1) st (.inl (.inr (sK ((k : Nat) : Int))))) = some L := e
  cases e1
  refine g_lconst h hd (W_push (hW _ List.mem_cons_self) hn hr hS (fun r' _ => ?_))
  show (Int64.ofNat (k : Nat)).toInt = sEv r' (sK ((k : Nat) : Int))
  rw [sEv_K]
  match k with
  | ⟨0, _⟩ => rfl
  | ⟨1, _⟩ => rfl
theorem e_null (h : gOK X) (hd : decode (gXy X) S.pc = .ok (.aconst_null, 1)) (e : sStep1 E code S .aconst_null 1 = some L) (hW : ∀ T ∈ L, sW X E.P F n0 r0 T) : sW X E.P F n0 r0 S := by
  intro r lv sv mu hn hr hS
  obtain ⟨pc, sl, st, me, iv, li, nx, mm⟩ := S
  have e1 : one (sPush (pc, sl, st, me, iv, li, nx, mm) (pc + 1) st (.inr none)) = some L := e
  cases e1
  exact g_null h hd (W_push (hW _ List.mem_cons_self) hn hr hS (fun r' _ => rfl))
/-- a local read -/
theorem e_ldI {i : Nat} {l : sL} {pc' : Nat} (c : sLk S.lv i = some (.inl (.inl l))) (hW : sW X E.P F n0 r0 (sPush S pc' S.st (.inl (.inl l)))) (hn : n0 ≤ S.nx) {r : Nat → Int} {lv : List (Nat × gV)} {sv : List gV} {mu : gM} (hr : sAg n0 r0 r) (hS : ∀ r', sAg S.nx r r' → sSatB E.P F r' S lv mu ∧ sRelS r' S.st sv) : ∃ x, (i, gI x) ∈ lv ∧ gG X pc' lv (gI x :: sv) mu := by
  obtain ⟨v, h1, h2, h3⟩ := gAtL_ok _ _ i _ r (hS r (sAg.rf _ _)).1.1 c
  rcases v with (x | x) | x
  · refine ⟨x, h2, W_push hW hn hr hS (fun r' q => ?_)⟩
    obtain ⟨v, h4, -, h5⟩ := gAtL_ok _ _ i _ r' (hS r' q).1.1 c
    cases h1.symm.trans h4
    exact h5
  · cases h3
  · cases h3
theorem e_ldL {i : Nat} {l : sL} {pc' : Nat} (c : sLk S.lv i = some (.inl (.inr l))) (hW : sW X E.P F n0 r0 (sPush S pc' S.st (.inl (.inr l)))) (hn : n0 ≤ S.nx) {r : Nat → Int} {lv : List (Nat × gV)} {sv : List gV} {mu : gM} (hr : sAg n0 r0 r) (hS : ∀ r', sAg S.nx r r' → sSatB E.P F r' S lv mu ∧ sRelS r' S.st sv) : ∃ x, (i, gL x) ∈ lv ∧ gG X pc' lv (gL x :: sv) mu := by
  obtain ⟨v, h1, h2, h3⟩ := gAtL_ok _ _ i _ r (hS r (sAg.rf _ _)).1.1 c
  rcases v with (x | x) | x
  · cases h3
  · refine ⟨x, h2, W_push hW hn hr hS (fun r' q => ?_)⟩
    obtain ⟨v, h4, -, h5⟩ := gAtL_ok _ _ i _ r' (hS r' q).1.1 c
    cases h1.symm.trans h4
    exact h5
  · cases h3
theorem e_ldA {i : Nat} {o : Option Nat} {pc' : Nat} (c : sLk S.lv i = some (.inr o)) (hW : sW X E.P F n0 r0 (sPush S pc' S.st (.inr o))) (hn : n0 ≤ S.nx) {r : Nat → Int} {lv : List (Nat × gV)} {sv : List gV} {mu : gM} (hr : sAg n0 r0 r) (hS : ∀ r', sAg S.nx r r' → sSatB E.P F r' S lv mu ∧ sRelS r' S.st sv) : (i, (.inr o : gV)) ∈ lv ∧ gG X pc' lv (.inr o :: sv) mu := by
  obtain ⟨v, h1, h2, h3⟩ := gAtL_ok _ _ i _ r (hS r (sAg.rf _ _)).1.1 c
  rcases v with (x | x) | x
  · cases h3
  · cases h3
  · have : o = x := h3
    subst this
    exact ⟨h2, W_push hW hn hr hS (fun r' q => rfl)⟩
theorem e_iload_n (h : gOK X) {i : Fin 4} (hd : decode (gXy X) S.pc = .ok (.iload_n i, 1)) (e : sStep1 E code S (.iload_n i) 1 = some L) (hW : ∀ T ∈ L, sW X E.P F n0 r0 T) : sW X E.P F n0 r0 S := by
  intro r lv sv mu hn hr hS
  obtain ⟨pc, sl, st, me, iv, li, nx, mm⟩ := S
  have e1 : (match sLk sl (i : Nat) with
    | some (.inl (.inl l)) => one (sPush (pc, sl, st, me, iv, li, nx, mm) (pc + 1) st (.inl (.inl l)))
    | _ => none) = some L := e
  split at e1
  · rename_i c
    cases e1
    obtain ⟨x, h1, h2⟩ := e_ldI (S := (pc, sl, st, me, iv, li, nx, mm)) c (hW _ List.mem_cons_self) hn hr hS
    exact g_iload_n h hd h1 h2
  · cases e1
theorem e_iload (h : gOK X) {i : Nat} (hd : decode (gXy X) S.pc = .ok (.iload i, 2)) (e : sStep1 E code S (.iload i) 2 = some L) (hW : ∀ T ∈ L, sW X E.P F n0 r0 T) : sW X E.P F n0 r0 S := by
  intro r lv sv mu hn hr hS
  obtain ⟨pc, sl, st, me, iv, li, nx, mm⟩ := S
  have e1 : (match sLk sl i with
    | some (.inl (.inl l)) => one (sPush (pc, sl, st, me, iv, li, nx, mm) (pc + 2) st (.inl (.inl l)))
    | _ => none) = some L := e
  split at e1
  · rename_i c
    cases e1
    obtain ⟨x, h1, h2⟩ := e_ldI (S := (pc, sl, st, me, iv, li, nx, mm)) c (hW _ List.mem_cons_self) hn hr hS
    exact g_iload h hd h1 h2
  · cases e1
theorem e_lload_n (h : gOK X) {i : Fin 4} (hd : decode (gXy X) S.pc = .ok (.lload_n i, 1)) (e : sStep1 E code S (.lload_n i) 1 = some L) (hW : ∀ T ∈ L, sW X E.P F n0 r0 T) : sW X E.P F n0 r0 S := by
  intro r lv sv mu hn hr hS
  obtain ⟨pc, sl, st, me, iv, li, nx, mm⟩ := S
  have e1 : (match sLk sl (i : Nat) with
    | some (.inl (.inr l)) => one (sPush (pc, sl, st, me, iv, li, nx, mm) (pc + 1) st (.inl (.inr l)))
    | _ => none) = some L := e
  split at e1
  · rename_i c
    cases e1
    obtain ⟨x, h1, h2⟩ := e_ldL (S := (pc, sl, st, me, iv, li, nx, mm)) c (hW _ List.mem_cons_self) hn hr hS
    exact g_lload_n h hd h1 h2
  · cases e1
theorem e_lload (h : gOK X) {i : Nat} (hd : decode (gXy X) S.pc = .ok (.lload i, 2)) (e : sStep1 E code S (.lload i) 2 = some L) (hW : ∀ T ∈ L, sW X E.P F n0 r0 T) : sW X E.P F n0 r0 S := by
  intro r lv sv mu hn hr hS
  obtain ⟨pc, sl, st, me, iv, li, nx, mm⟩ := S
  have e1 : (match sLk sl i with
    | some (.inl (.inr l)) => one (sPush (pc, sl, st, me, iv, li, nx, mm) (pc + 2) st (.inl (.inr l)))
    | _ => none) = some L := e
  split at e1
  · rename_i c
    cases e1
    obtain ⟨x, h1, h2⟩ := e_ldL (S := (pc, sl, st, me, iv, li, nx, mm)) c (hW _ List.mem_cons_self) hn hr hS
    exact g_lload h hd h1 h2
  · cases e1
theorem e_aload_n (h : gOK X) {i : Fin 4} (hd : decode (gXy X) S.pc = .ok (.aload_n i, 1)) (e : sStep1 E code S (.aload_n i) 1 = some L) (hW : ∀ T ∈ L, sW X E.P F n0 r0 T) : sW X E.P F n0 r0 S := by
  intro r lv sv mu hn hr hS
  obtain ⟨pc, sl, st, me, iv, li, nx, mm⟩ := S
  have e1 : (match sLk sl (i : Nat) with
    | some (.inr o) => one (sPush (pc, sl, st, me, iv, li, nx, mm) (pc + 1) st (.inr o))
    | _ => none) = some L := e
  split at e1
  · rename_i c
    cases e1
    obtain ⟨h1, h2⟩ := e_ldA (S := (pc, sl, st, me, iv, li, nx, mm)) c (hW _ List.mem_cons_self) hn hr hS
    exact g_aload_n h hd h1 h2
  · cases e1
theorem e_aload (h : gOK X) {i : Nat} (hd : decode (gXy X) S.pc = .ok (.aload i, 2)) (e : sStep1 E code S (.aload i) 2 = some L) (hW : ∀ T ∈ L, sW X E.P F n0 r0 T) : sW X E.P F n0 r0 S := by
  intro r lv sv mu hn hr hS
  obtain ⟨pc, sl, st, me, iv, li, nx, mm⟩ := S
  have e1 : (match sLk sl i with
    | some (.inr o) => one (sPush (pc, sl, st, me, iv, li, nx, mm) (pc + 2) st (.inr o))
    | _ => none) = some L := e
  split at e1
  · rename_i c
    cases e1
    obtain ⟨h1, h2⟩ := e_ldA (S := (pc, sl, st, me, iv, li, nx, mm)) c (hW _ List.mem_cons_self) hn hr hS
    exact g_aload h hd h1 h2
  · cases e1
theorem e_istore_n (h : gOK X) {i : Fin 4} (hx : (i : Nat) < gXn X) (hd : decode (gXy X) S.pc = .ok (.istore_n i, 1)) (e : sStep1 E code S (.istore_n i) 1 = some L) (hW : ∀ T ∈ L, sW X E.P F n0 r0 T) : sW X E.P F n0 r0 S := by
  intro r lv sv mu hn hr hS
  obtain ⟨pc, sl, st, me, iv, li, nx, mm⟩ := S
  rcases st with _ | ⟨(l | l) | l, st⟩
  all_goals try (cases e; done)
  have e1 : one (pc + 1, sSt1 sl (i : Nat) (.inl (.inl l)), st, me, iv, li, nx, mm) = some L := e
  cases e1
  obtain ⟨z, sv, rfl, h1, h2⟩ := popI hS
  exact g_istore_n h hd hx (hW _ List.mem_cons_self r (gst1 lv (i : Nat) (gI z)) sv mu hn hr (fun r' q => ⟨⟨relL_st1 (h1 r' q).1.1 _ (h2 r' q), (h1 r' q).1.2⟩, (h1 r' q).2⟩))
theorem e_istore (h : gOK X) {i : Nat} (hx : i < gXn X) (hd : decode (gXy X) S.pc = .ok (.istore i, 2)) (e : sStep1 E code S (.istore i) 2 = some L) (hW : ∀ T ∈ L, sW X E.P F n0 r0 T) : sW X E.P F n0 r0 S := by
  intro r lv sv mu hn hr hS
  obtain ⟨pc, sl, st, me, iv, li, nx, mm⟩ := S
  rcases st with _ | ⟨(l | l) | l, st⟩
  all_goals try (cases e; done)
  have e1 : one (pc + 2, sSt1 sl i (.inl (.inl l)), st, me, iv, li, nx, mm) = some L := e
  cases e1
  obtain ⟨z, sv, rfl, h1, h2⟩ := popI hS
  exact g_istore h hd hx (hW _ List.mem_cons_self r (gst1 lv i (gI z)) sv mu hn hr (fun r' q => ⟨⟨relL_st1 (h1 r' q).1.1 _ (h2 r' q), (h1 r' q).1.2⟩, (h1 r' q).2⟩))
theorem e_lstore_n (h : gOK X) {i : Fin 4} (hx : (i : Nat) + 1 < gXn X) (hd : decode (gXy X) S.pc = .ok (.lstore_n i, 1)) (e : sStep1 E code S (.lstore_n i) 1 = some L) (hW : ∀ T ∈ L, sW X E.P F n0 r0 T) : sW X E.P F n0 r0 S := by
  intro r lv sv mu hn hr hS
  obtain ⟨pc, sl, st, me, iv, li, nx, mm⟩ := S
  rcases st with _ | ⟨(l | l) | l, st⟩
  all_goals try (cases e; done)
  have e1 : one (pc + 1, sSt2 sl (i : Nat) (.inl (.inr l)), st, me, iv, li, nx, mm) = some L := e
  cases e1
  obtain ⟨z, sv, rfl, h1, h2⟩ := popL hS
  exact g_lstore_n h hd hx (hW _ List.mem_cons_self r (gst2 lv (i : Nat) (gL z)) sv mu hn hr (fun r' q => ⟨⟨relL_st2 (h1 r' q).1.1 _ (h2 r' q), (h1 r' q).1.2⟩, (h1 r' q).2⟩))
theorem e_lstore (h : gOK X) {i : Nat} (hx : i + 1 < gXn X) (hd : decode (gXy X) S.pc = .ok (.lstore i, 2)) (e : sStep1 E code S (.lstore i) 2 = some L) (hW : ∀ T ∈ L, sW X E.P F n0 r0 T) : sW X E.P F n0 r0 S := by
  intro r lv sv mu hn hr hS
  obtain ⟨pc, sl, st, me, iv, li, nx, mm⟩ := S
  rcases st with _ | ⟨(l | l) | l, st⟩
  all_goals try (cases e; done)
  have e1 : one (pc + 2, sSt2 sl i (.inl (.inr l)), st, me, iv, li, nx, mm) = some L := e
  cases e1
  obtain ⟨z, sv, rfl, h1, h2⟩ := popL hS
  exact g_lstore h hd hx (hW _ List.mem_cons_self r (gst2 lv i (gL z)) sv mu hn hr (fun r' q => ⟨⟨relL_st2 (h1 r' q).1.1 _ (h2 r' q), (h1 r' q).1.2⟩, (h1 r' q).2⟩))
theorem e_astore_n (h : gOK X) {i : Fin 4} (hx : (i : Nat) < gXn X) (hd : decode (gXy X) S.pc = .ok (.astore_n i, 1)) (e : sStep1 E code S (.astore_n i) 1 = some L) (hW : ∀ T ∈ L, sW X E.P F n0 r0 T) : sW X E.P F n0 r0 S := by
  intro r lv sv mu hn hr hS
  obtain ⟨pc, sl, st, me, iv, li, nx, mm⟩ := S
  rcases st with _ | ⟨(l | l) | l, st⟩
  all_goals try (cases e; done)
  have e1 : one (pc + 1, sSt1 sl (i : Nat) (.inr l), st, me, iv, li, nx, mm) = some L := e
  cases e1
  obtain ⟨sv, rfl, h1⟩ := popR hS
  exact g_astore_n h hd hx (hW _ List.mem_cons_self r (gst1 lv (i : Nat) (.inr l)) sv mu hn hr (fun r' q => ⟨⟨relL_st1 (h1 r' q).1.1 _ (rfl), (h1 r' q).1.2⟩, (h1 r' q).2⟩))
theorem e_astore (h : gOK X) {i : Nat} (hx : i < gXn X) (hd : decode (gXy X) S.pc = .ok (.astore i, 2)) (e : sStep1 E code S (.astore i) 2 = some L) (hW : ∀ T ∈ L, sW X E.P F n0 r0 T) : sW X E.P F n0 r0 S := by
  intro r lv sv mu hn hr hS
  obtain ⟨pc, sl, st, me, iv, li, nx, mm⟩ := S
  rcases st with _ | ⟨(l | l) | l, st⟩
  all_goals try (cases e; done)
  have e1 : one (pc + 2, sSt1 sl i (.inr l), st, me, iv, li, nx, mm) = some L := e
  cases e1
  obtain ⟨sv, rfl, h1⟩ := popR hS
  exact g_astore h hd hx (hW _ List.mem_cons_self r (gst1 lv i (.inr l)) sv mu hn hr (fun r' q => ⟨⟨relL_st1 (h1 r' q).1.1 _ (rfl), (h1 r' q).1.2⟩, (h1 r' q).2⟩))
end STEPA
