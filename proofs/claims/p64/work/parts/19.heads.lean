/-! THE ENGINE IS SOUND: a loop's head -/
theorem gG_sub {X : gX} {pc : Nat} {lv lv' : List (Nat × gV)} {st : List gV} {mu : gM} (h : ∀ q ∈ lv', q ∈ lv) (k : gG X pc lv' st mu) : gG X pc lv st mu :=
  fun H locs ls hR hl => k H locs ls hR ⟨hl.1, hl.2.1, fun q hq => by
    obtain ⟨p, hp, rfl⟩ := List.mem_map.mp hq
    exact hl.2.2 _ (List.mem_map.mpr ⟨p, h p hp, rfl⟩)⟩
/-- what a state says but for what is known of single places' rows -/
def sSat0 (P : sP) (r : Nat → Int) (S : sS) (lv : List (Nat × gV)) (mu : gM) : Prop := sRelL r S.lv lv ∧ sMeOK P r S.me mu ∧ sFx P r S
def sD (P : sP) (r : Nat → Int) (S : sS) (lv : List (Nat × gV)) (sv : List gV) (mu : gM) : Prop := ∀ r', sAg S.nx r r' → sSat0 P r' S lv mu ∧ sRelS r' S.st sv
theorem D_st1 {P : sP} {S : sS} {r : Nat → Int} {lv : List (Nat × gV)} {sv : List gV} {mu : gM} (h : sD P r S lv sv mu) (k : Nat) {s lo hi t : Int} {z : Int32} (hz : z.toInt = s * t) (h1 : lo ≤ t) (h2 : t ≤ hi) : sD P (sUp r S.nx t) (S.pc, sSt1 S.lv k (.inl (.inl (sMul s (sY S.nx)))), S.st, S.me, (S.nx, lo, hi) :: S.iv, S.li, S.nx + 1, S.mm) (gst1 lv k (gI z)) sv mu := by
  intro r' q
  have q0 : sAg S.nx r r' := sUp_ag.tr q (Nat.le_succ _)
  have q1 : r' S.nx = t := (q S.nx (Nat.lt_succ_self _)).trans sUp_s
  obtain ⟨⟨a1, a2, a3, a4, a5⟩, b⟩ := h r' q0
  refine ⟨⟨relL_st1 a1 k ?_, a2, fun m hm => ?_, a4, a5⟩, b⟩
  · show z.toInt = sEv r' (sMul s (sY S.nx))
    rw [sEv_mul, sEv_Y, q1]
    exact hz
  · rcases List.mem_cons.mp hm with rfl | hm
    · simp only
      rw [q1]
      exact ⟨h1, h2⟩
    · exact a3 m hm
theorem D_st2 {P : sP} {S : sS} {r : Nat → Int} {lv : List (Nat × gV)} {sv : List gV} {mu : gM} (h : sD P r S lv sv mu) (k : Nat) {s lo hi t : Int} {z : Int64} (hz : z.toInt = s * t) (h1 : lo ≤ t) (h2 : t ≤ hi) : sD P (sUp r S.nx t) (S.pc, sSt2 S.lv k (.inl (.inr (sMul s (sY S.nx)))), S.st, S.me, (S.nx, lo, hi) :: S.iv, S.li, S.nx + 1, S.mm) (gst2 lv k (gL z)) sv mu := by
  intro r' q
  have q0 : sAg S.nx r r' := sUp_ag.tr q (Nat.le_succ _)
  have q1 : r' S.nx = t := (q S.nx (Nat.lt_succ_self _)).trans sUp_s
  obtain ⟨⟨a1, a2, a3, a4, a5⟩, b⟩ := h r' q0
  refine ⟨⟨relL_st2 a1 k ?_, a2, fun m hm => ?_, a4, a5⟩, b⟩
  · show z.toInt = sEv r' (sMul s (sY S.nx))
    rw [sEv_mul, sEv_Y, q1]
    exact hz
  · rcases List.mem_cons.mp hm with rfl | hm
    · simp only
      rw [q1]
      exact ⟨h1, h2⟩
    · exact a3 m hm
theorem sDvT_ok {r : Nat → Int} {k : Int} : ∀ (t u : List (Nat × Int)), sDvT k t = some u → sev r t = k * sev r u
  | [], u, e => by
    cases e
    simp [sev]
  | q :: t, u, e => by
    simp only [sDvT] at e
    by_cases c : q.2 % k = 0
    · rw [if_pos c] at e
      cases c2 : sDvT k t with
      | none => rw [c2] at e; cases e
      | some v =>
        rw [c2] at e
        cases e
        have ih := sDvT_ok (r := r) t v c2
        have d := Int.emod_def q.2 k
        simp only [sev]
        rw [ih, Int.mul_add, ← Int.mul_assoc, show k * (q.2 / k) = q.2 by omega]
    · rw [if_neg c] at e
      cases e
theorem sDv_ok {r : Nat → Int} {k : Int} {l m : sL} (e : sDv k l = some m) : sEv r l = k * sEv r m := by
  unfold sDv at e
  by_cases c : k = 1
  · rw [if_pos c] at e
    cases e
    rw [c, Int.one_mul]
  · rw [if_neg c] at e
    by_cases c2 : l.1 % k = 0
    · rw [if_pos c2] at e
      cases c3 : sDvT k l.2 with
      | none => rw [c3] at e; cases e
      | some v =>
        rw [c3] at e
        cases e
        have d := Int.emod_def l.1 k
        unfold sEv
        simp only
        rw [sDvT_ok _ _ c3, Int.mul_add, show k * (l.1 / k) = l.1 by omega]
    · rw [if_neg c2] at e
      cases e
theorem sInDv_ok {P : sP} {S : sS} {r : Nat → Int} (hF : sFx P r S) {k : Int} {l : sL} {lo hi : Int} (e : sInDv P S k l lo hi = true) : ∃ t, sEv r l = k * t ∧ lo ≤ t ∧ t ≤ hi := by
  unfold sInDv at e
  cases c : sDv k l with
  | none => rw [c] at e; cases e
  | some m =>
    rw [c] at e
    have b := sRanged_ok hF.1 hF.2.2 e
    exact ⟨sEv r m, sDv_ok c, b.1, b.2⟩
theorem st1_sub {lv : List (Nat × gV)} {k : Nat} {v : gV} (h : (k, v) ∈ lv) : ∀ q ∈ gst1 lv k v, q ∈ lv := fun q hq => by
  rcases List.mem_cons.mp hq with rfl | hq
  · exact h
  · exact (List.mem_filter.mp hq).1
theorem st2_sub {lv : List (Nat × gV)} {k : Nat} {v : gV} (h : (k, v) ∈ lv) : ∀ q ∈ gst2 lv k v, q ∈ lv := fun q hq => by
  rcases List.mem_cons.mp hq with rfl | hq
  · exact h
  · exact (List.mem_filter.mp hq).1
/-- the state but for locals, intervals and the next symbol -/
def sLike (S T : sS) : Prop := T.pc = S.pc ∧ T.st = S.st ∧ T.me = S.me ∧ T.li = S.li ∧ T.mm = S.mm ∧ S.nx ≤ T.nx
theorem havL_in {P : sP} {sv : List gV} {mu : gM} : ∀ (hl : List (Nat × Int × Int × Int)) (S T : sS) (r : Nat → Int) (lv : List (Nat × gV)), sD P r S lv sv mu → sHavL P hl S = some T → ∃ r1 lv1, sAg S.nx r r1 ∧ sD P r1 T lv1 sv mu ∧ (∀ q ∈ lv1, q ∈ lv) ∧ sLike S T
  | [], S, T, r, lv, hD, e => by
    cases e
    exact ⟨r, lv, sAg.rf _ _, hD, fun q h => h, rfl, rfl, rfl, rfl, rfl, Nat.le_refl _⟩
  | h :: t, S, T, r, lv, hD, e => by
    simp only [sHavL] at e
    split at e
    · cases e
    · have h0 := (hD r (sAg.rf _ _)).1
      split at e
      · rename_i l c
        split at e
        · rename_i c2
          obtain ⟨v, v1, v2, v3⟩ := gAtL_ok _ _ _ _ r h0.1 c
          rcases v with (x | x) | x
          · obtain ⟨z, z1, z2, z3⟩ := sInDv_ok h0.2.2 c2
            have hD2 := D_st1 hD h.1 (z := x) ((show x.toInt = sEv r l from v3).trans z1) z2 z3
            obtain ⟨r1, lv1, k1, k2, k3, k4⟩ := havL_in t _ T _ _ hD2 e
            exact ⟨r1, lv1, sUp_ag.tr k1 (Nat.le_succ _), k2, fun q hq => st1_sub v2 q (k3 q hq), k4.1, k4.2.1, k4.2.2.1, k4.2.2.2.1, k4.2.2.2.2.1, Nat.le_trans (Nat.le_succ _) k4.2.2.2.2.2⟩
          · cases v3
          · cases v3
        · cases e
      · rename_i l c
        split at e
        · rename_i c2
          obtain ⟨v, v1, v2, v3⟩ := gAtL_ok _ _ _ _ r h0.1 c
          rcases v with (x | x) | x
          · cases v3
          · obtain ⟨z, z1, z2, z3⟩ := sInDv_ok h0.2.2 c2
            have hD2 := D_st2 hD h.1 (z := x) ((show x.toInt = sEv r l from v3).trans z1) z2 z3
            obtain ⟨r1, lv1, k1, k2, k3, k4⟩ := havL_in t _ T _ _ hD2 e
            exact ⟨r1, lv1, sUp_ag.tr k1 (Nat.le_succ _), k2, fun q hq => st2_sub v2 q (k3 q hq), k4.1, k4.2.1, k4.2.2.1, k4.2.2.2.1, k4.2.2.2.2.1, Nat.le_trans (Nat.le_succ _) k4.2.2.2.2.2⟩
          · cases v3
        · cases e
      · cases e
def gKd : gV → Nat
  | .inl (.inl _) => 0
  | .inl (.inr _) => 1
  | .inr _ => 2
def hvOK (h : Nat × Int × Int × Int) (v : gV) : Prop := ∃ t, h.2.1 ≤ t ∧ t ≤ h.2.2.1 ∧ (match v with | .inl (.inl z) => z.toInt = h.2.2.2 * t | .inl (.inr z) => z.toInt = h.2.2.2 * t | _ => False)
theorem zip_filter {r : Nat → Int} (f : Nat → Nat → Bool) : ∀ (l : List (Nat × sA)) (lv : List (Nat × gV)), sRelL r l lv → ∀ x ∈ (l.filter (fun q => f q.1 (sCat q.2))).zip (lv.filter (fun q => f q.1 (gcat q.2))), x ∈ l.zip lv ∧ f x.1.1 (sCat x.1.2) = true
  | [], [], _, x, hx => by cases hx
  | [], _ :: _, h, _, _ => by cases h
  | _ :: _, [], h, _, _ => by cases h
  | q :: l, b :: lv, h, x, hx => by
    obtain ⟨h1, h2, h3⟩ := h
    have e : f q.1 (sCat q.2) = f b.1 (gcat b.2) := by rw [h1, sRel_cat h2]
    by_cases c : f b.1 (gcat b.2) = true
    · rw [List.filter_cons_of_pos (by rw [e]; exact c), List.filter_cons_of_pos (p := fun q : Nat × gV => f q.1 (gcat q.2)) c] at hx
      rcases List.mem_cons.mp hx with rfl | hx
      · exact ⟨List.mem_cons_self, by simp only; rw [e]; exact c⟩
      · have := zip_filter f l lv h3 x hx
        exact ⟨List.mem_cons_of_mem _ this.1, this.2⟩
    · rw [List.filter_cons_of_neg (by rw [e]; exact c), List.filter_cons_of_neg (p := fun q : Nat × gV => f q.1 (gcat q.2)) c] at hx
      have := zip_filter f l lv h3 x hx
      exact ⟨List.mem_cons_of_mem _ this.1, this.2⟩
theorem zip_st1 {r : Nat → Int} {l : List (Nat × sA)} {lv : List (Nat × gV)} (h : sRelL r l lv) {i : Nat} {a : sA} {v : gV} : ∀ x ∈ (sSt1 l i a).zip (gst1 lv i v), x = ((i, a), (i, v)) ∨ (x ∈ l.zip lv ∧ x.1.1 ≠ i) := fun x hx => by
  rcases List.mem_cons.mp hx with rfl | hx
  · exact .inl rfl
  · obtain ⟨h1, h2⟩ := zip_filter (fun n c => !(n == i) && !(n + 1 == i && c == 2)) l lv h x hx
    simp only [Bool.and_eq_true, Bool.not_eq_true', beq_eq_false_iff_ne] at h2
    exact .inr ⟨h1, h2.1⟩
theorem zip_st2 {r : Nat → Int} {l : List (Nat × sA)} {lv : List (Nat × gV)} (h : sRelL r l lv) {i : Nat} {a : sA} {v : gV} : ∀ x ∈ (sSt2 l i a).zip (gst2 lv i v), x = ((i, a), (i, v)) ∨ (x ∈ l.zip lv ∧ x.1.1 ≠ i) := fun x hx => by
  rcases List.mem_cons.mp hx with rfl | hx
  · exact .inl rfl
  · obtain ⟨h1, h2⟩ := zip_filter (fun n c => !(n == i) && (!(n == i + 1) && !(n + 1 == i && c == 2))) l lv h x hx
    simp only [Bool.and_eq_true, Bool.not_eq_true', beq_eq_false_iff_ne] at h2
    exact .inr ⟨h1, h2.1⟩
theorem relL_zip {r : Nat → Int} : ∀ (l : List (Nat × sA)) (lv : List (Nat × gV)), sRelL r l lv → ∀ x ∈ l.zip lv, x.1 ∈ l ∧ x.1.1 = x.2.1 ∧ sRel r x.1.2 x.2.2
  | [], [], _, x, hx => by cases hx
  | [], _ :: _, h, _, _ => by cases h
  | _ :: _, [], h, _, _ => by cases h
  | q :: l, b :: lv, h, x, hx => by
    rcases List.mem_cons.mp hx with rfl | hx
    · exact ⟨List.mem_cons_self, h.1, h.2.1⟩
    · have := relL_zip l lv h.2.2 x hx
      exact ⟨List.mem_cons_of_mem _ this.1, this.2⟩
theorem relL_mem {r : Nat → Int} : ∀ (l : List (Nat × sA)) (lv : List (Nat × gV)), sRelL r l lv → ∀ b ∈ lv, ∃ q, (q, b) ∈ l.zip lv
  | [], [], _, x, hx => by cases hx
  | [], _ :: _, h, _, _ => by cases h
  | _ :: _, [], h, _, _ => by cases h
  | q :: l, b :: lv, h, x, hx => by
    rcases List.mem_cons.mp hx with rfl | hx
    · exact ⟨q, List.mem_cons_self⟩
    · obtain ⟨q', h'⟩ := relL_mem l lv h.2.2 x hx
      exact ⟨q', List.mem_cons_of_mem _ h'⟩
theorem st1_kd {l : List (Nat × sA)} {i : Nat} {a : sA} {k n : Nat} (h : ∀ q ∈ l, q.1 = k → sKd q.2 = n) (ha : i = k → sKd a = n) : ∀ q ∈ sSt1 l i a, q.1 = k → sKd q.2 = n := fun q hq e => by
  rcases List.mem_cons.mp hq with rfl | hq
  · exact ha e
  · exact h q (List.mem_filter.mp hq).1 e
theorem st2_kd {l : List (Nat × sA)} {i : Nat} {a : sA} {k n : Nat} (h : ∀ q ∈ l, q.1 = k → sKd q.2 = n) (ha : i = k → sKd a = n) : ∀ q ∈ sSt2 l i a, q.1 = k → sKd q.2 = n := fun q hq e => by
  rcases List.mem_cons.mp hq with rfl | hq
  · exact ha e
  · exact h q (List.mem_filter.mp hq).1 e
theorem sLk_mem : ∀ (l : List (Nat × sA)) (i : Nat) (a : sA), sLk l i = some a → (i, a) ∈ l
  | [], _, _, e => by cases e
  | q :: l, i, a, e => by
    simp only [sLk] at e
    by_cases c : Nat.beq q.1 i = true
    · rw [if_pos c] at e
      cases e
      rw [Nat.beq_eq] at c
      subst c
      exact List.mem_cons_self
    · rw [if_neg c] at e
      exact List.mem_cons_of_mem _ (sLk_mem l i a e)
theorem havL_to {P : sP} {sv : List gV} {mu : gM} (val : Nat → gV) : ∀ (hl : List (Nat × Int × Int × Int)) (S T : sS) (r : Nat → Int) (lv : List (Nat × gV)), sD P r S lv sv mu → sHavL P hl S = some T → (∀ h ∈ hl, hvOK h (val h.1)) → (∀ h ∈ hl, ∀ q ∈ S.lv, q.1 = h.1 → sKd q.2 = gKd (val h.1)) →
    ∃ r1 lv1, sAg S.nx r r1 ∧ sD P r1 T lv1 sv mu ∧ sLike S T ∧ ∀ x ∈ T.lv.zip lv1, (∃ h ∈ hl, x.1.1 = h.1 ∧ x.2 = (h.1, val h.1)) ∨ (x ∈ S.lv.zip lv ∧ ∀ h ∈ hl, x.1.1 ≠ h.1)
  | [], S, T, r, lv, hD, e, _, _ => by
    cases e
    exact ⟨r, lv, sAg.rf _ _, hD, ⟨rfl, rfl, rfl, rfl, rfl, Nat.le_refl _⟩, fun x hx => .inr ⟨hx, fun h hh => absurd hh List.not_mem_nil⟩⟩
  | h :: t, S, T, r, lv, hD, e, hv, hk => by
    simp only [sHavL] at e
    split at e
    · cases e
    · have h0 := (hD r (sAg.rf _ _)).1
      have hv0 := hv h List.mem_cons_self
      split at e
      · rename_i l c
        split at e
        · have kd := hk h List.mem_cons_self _ (sLk_mem _ _ _ c) rfl
          obtain ⟨z, z1, z2, z3⟩ := hv0
          rcases ev : val h.1 with (x | x) | x
          · rw [ev] at z3
            have hD2 := D_st1 hD h.1 (z := x) z3 z1 z2
            obtain ⟨r1, lv1, k1, k2, k4, k3⟩ := havL_to val t _ T _ _ hD2 e (fun h' hh => hv h' (List.mem_cons_of_mem _ hh)) (fun h' hh => st1_kd (hk h' (List.mem_cons_of_mem _ hh)) (fun q => by rw [← q, ev]; rfl))
            refine ⟨r1, lv1, sUp_ag.tr k1 (Nat.le_succ _), k2, ⟨k4.1, k4.2.1, k4.2.2.1, k4.2.2.2.1, k4.2.2.2.2.1, Nat.le_trans (Nat.le_succ _) k4.2.2.2.2.2⟩, fun y hy => ?_⟩
            rcases k3 y hy with ⟨h', m1, m2, m3⟩ | ⟨m1, m2⟩
            · exact .inl ⟨h', List.mem_cons_of_mem _ m1, m2, m3⟩
            · rcases zip_st1 h0.1 y m1 with rfl | ⟨m3, m4⟩
              · exact .inl ⟨h, List.mem_cons_self, rfl, by rw [ev]⟩
              · refine .inr ⟨m3, fun h' hh => ?_⟩
                rcases List.mem_cons.mp hh with rfl | hh
                · exact m4
                · exact m2 h' hh
          · rw [ev] at kd
            cases kd
          · rw [ev] at kd
            cases kd
        · cases e
      · rename_i l c
        split at e
        · have kd := hk h List.mem_cons_self _ (sLk_mem _ _ _ c) rfl
          obtain ⟨z, z1, z2, z3⟩ := hv0
          rcases ev : val h.1 with (x | x) | x
          · rw [ev] at kd
            cases kd
          · rw [ev] at z3
            have hD2 := D_st2 hD h.1 (z := x) z3 z1 z2
            obtain ⟨r1, lv1, k1, k2, k4, k3⟩ := havL_to val t _ T _ _ hD2 e (fun h' hh => hv h' (List.mem_cons_of_mem _ hh)) (fun h' hh => st2_kd (hk h' (List.mem_cons_of_mem _ hh)) (fun q => by rw [← q, ev]; rfl))
            refine ⟨r1, lv1, sUp_ag.tr k1 (Nat.le_succ _), k2, ⟨k4.1, k4.2.1, k4.2.2.1, k4.2.2.2.1, k4.2.2.2.2.1, Nat.le_trans (Nat.le_succ _) k4.2.2.2.2.2⟩, fun y hy => ?_⟩
            rcases k3 y hy with ⟨h', m1, m2, m3⟩ | ⟨m1, m2⟩
            · exact .inl ⟨h', List.mem_cons_of_mem _ m1, m2, m3⟩
            · rcases zip_st2 h0.1 y m1 with rfl | ⟨m3, m4⟩
              · exact .inl ⟨h, List.mem_cons_self, rfl, by rw [ev]⟩
              · refine .inr ⟨m3, fun h' hh => ?_⟩
                rcases List.mem_cons.mp hh with rfl | hh
                · exact m4
                · exact m2 h' hh
          · rw [ev] at kd
            cases kd
        · cases e
      · cases e
