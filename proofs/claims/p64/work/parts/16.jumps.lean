/-! THE ENGINE IS SOUND, instruction by instruction: division, jumps, stack -/
theorem eqv_sat {P : sP} {F : Nat → Int → gM → Int} {r : Nat → Int} {S T : sS} (q : sEqv S T) {lv : List (Nat × gV)} {mu : gM} (h : sSatB P F r S lv mu) (hF : sFx P r T) : sSatB P F r T lv mu := by
  obtain ⟨q1, q2, q3, q4, q5, q6⟩ := q
  obtain ⟨h1, h2, h3, h4⟩ := h
  refine ⟨?_, ?_, hF, ?_⟩
  · rw [q2]; exact h1
  · rw [q4]; exact h2
  · rw [q6]; exact h4
theorem gc_if (cd : Jvm.ClassFile.Cond) (x : Int32) : gcond cd x 0 ↔ icond cd x.toInt := by
  have e0 : (0 : Int32).toInt = 0 := Int32.toInt_zero
  cases cd with
  | eq => simp only [gcond, icond]; rw [← Int32.toInt_inj, e0]
  | ne => simp only [gcond, icond]; rw [← Int32.toInt_inj, e0]
  | lt => simp only [gcond, icond]; rw [Int32.lt_iff_toInt_lt, e0]
  | ge => simp only [gcond, icond]; rw [Int32.le_iff_toInt_le, e0]
  | gt => simp only [gcond, icond]; rw [Int32.lt_iff_toInt_lt, e0]
  | le => simp only [gcond, icond]; rw [Int32.le_iff_toInt_le, e0]
theorem gc_icmp (cd : Jvm.ClassFile.Cond) (x y : Int32) : gcond cd x y ↔ icond cd (x.toInt - y.toInt) := by
  cases cd with
  | eq => simp only [gcond, icond]; rw [← Int32.toInt_inj]; omega
  | ne => simp only [gcond, icond]; rw [← Int32.toInt_inj]; omega
  | lt => simp only [gcond, icond]; rw [Int32.lt_iff_toInt_lt]; omega
  | ge => simp only [gcond, icond]; rw [Int32.le_iff_toInt_le]; omega
  | gt => simp only [gcond, icond]; rw [Int32.lt_iff_toInt_lt]; omega
  | le => simp only [gcond, icond]; rw [Int32.le_iff_toInt_le]; omega
theorem gc_lcmp (cd : Jvm.ClassFile.Cond) (x y : Int64) : gcond cd (lg_cmp x y) 0 ↔ icond cd (x.toInt - y.toInt) := by
  cases cd with
  | eq => simp only [gcond, icond]; rw [lg_cmp_eq, ← Int64.toInt_inj]; omega
  | ne => simp only [gcond, icond]; rw [lg_cmp_eq, ← Int64.toInt_inj]; omega
  | lt => simp only [gcond, icond]; rw [lg_cmp_lt, Int64.lt_iff_toInt_lt]; omega
  | ge => simp only [gcond, icond]; rw [lg_cmp_ge, Int64.le_iff_toInt_le]; omega
  | gt => simp only [gcond, icond]; rw [lg_cmp_gt, Int64.lt_iff_toInt_lt]; omega
  | le => simp only [gcond, icond]; rw [lg_cmp_le, Int64.le_iff_toInt_le]; omega
theorem sTgt_ok {pc : Nat} {off : Int} (h : sTgtOk pc off = true) : (pc : Int) + off = (sTgt pc off : Int) := by
  unfold sTgtOk at h
  rw [decide_eq_true_eq] at h
  unfold sTgt
  omega
theorem popV {Z : (Nat → Int) → Prop} {r : Nat → Int} {n : Nat} {y : sA} {s : List sA} {sv : List gV} (h : ∀ r', sAg n r r' → Z r' ∧ sRelS r' (y :: s) sv) : ∃ z sv', sv = z :: sv' ∧ (∀ r', sAg n r r' → Z r' ∧ sRelS r' s sv') ∧ ∀ r', sAg n r r' → sRel r' y z := by
  have h0 := (h r (sAg.rf _ _)).2
  rcases sv with _ | ⟨z, sv⟩
  · cases h0
  · exact ⟨z, sv, rfl, fun r' q => ⟨(h r' q).1, (h r' q).2.2⟩, fun r' q => (h r' q).2.1⟩
theorem okB_ok {b : Bool} {x : sR} {L : List sS} (e : okB b x = some L) : b = true ∧ x = some L := by
  unfold okB at e
  split at e
  · exact ⟨by assumption, e⟩
  · cases e
section STEPC
variable {X : gX} {E : sE} {P : sP} {F : Nat → Int → gM → Int} {n0 : Nat} {r0 : Nat → Int} {code : sCode} {S : sS} {L : List sS}
theorem W_divP {T U : sS} {pc : Nat} {st : List sA} {x : sL} {c a : Int} (hc : 0 < c) (h0 : 0 ≤ a) (e : sDivP P T pc st x c = some U) (hW : sW X P F n0 r0 U) (hn : n0 ≤ T.nx) {r : Nat → Int} {lv : List (Nat × gV)} {sv : List gV} {mu : gM} {z : Int32} (hr : sAg n0 r0 r) (hS : ∀ r', sAg T.nx r r' → sSatB P F r' T lv mu ∧ sRelS r' st sv) (ha : ∀ r', sAg T.nx r r' → a = sEv r' x) (hz : z.toInt = a.tdiv c) : gG X pc lv (gI z :: sv) mu := by
  unfold sDivP at e
  cases cb : sB P T.iv x with
  | none =>
    rw [cb] at e
    cases e
    exact W_anyI hW hn hr hS (i32_range _).1 (i32_range _).2
  | some g =>
    rw [cb] at e
    have hb := sB_ok (hS r (sAg.rf _ _)).1.2.2.1.1 (hS r (sAg.rf _ _)).1.2.2.1.2.2 cb
    rw [← ha r (sAg.rf _ _)] at hb
    have b1 := tdiv_mono hc hb.1
    have b2 := tdiv_mono hc hb.2
    simp only at e
    by_cases cc : g.1.tdiv c = g.2.tdiv c
    · rw [if_pos cc] at e
      cases e
      exact W_anyI hW hn hr hS (by omega) (by omega)
    · rw [if_neg cc] at e
      cases e
      refine hW (sUp r T.nx z.toInt) lv (gI z :: sv) mu (Nat.le_succ_of_le hn) (hr.tr sUp_ag hn) (fun r' h => ?_)
      obtain ⟨⟨k1, k2, ⟨k3, k4, k5⟩, k6⟩, k7, k8⟩ := new_ok hS (lo := g.1.tdiv c) (hi := g.2.tdiv c) (by omega) (by omega) r' h
      have e1 := Int.tmod_def a c
      have e2 := tmod_iv (x := a) hc
      have e3 := (tdiv_abs (a := a) hc).1 h0
      have e4 : c * a.tdiv c = a.tdiv c * c := Int.mul_comm _ _
      have e5 := ha r' (sUp_ag.tr h (Nat.le_succ _))
      refine ⟨⟨k1, k2, ⟨k3, fun l hl => ?_, k5⟩, k6⟩, (show z.toInt = sEv r' (sY T.nx) by rw [sEv_Y, k8]), k7⟩
      rcases List.mem_cons.mp hl with rfl | hl
      · rw [sEv_add, sEv_add, sEv_mul, sEv_Y, sEv_K, k8, hz, ← e5, Int.neg_mul]
        omega
      · rcases List.mem_cons.mp hl with rfl | hl
        · rw [sEv_add, sEv_mul, sEv_mul, sEv_Y, k8, hz, ← e5]
          omega
        · exact k4 l hl
theorem W_divN {T U : sS} {pc : Nat} {st : List sA} {x : sL} {c a : Int} (hc : 0 < c) (e : sDivN P T pc st x c = some U) (hW : sW X P F n0 r0 U) (hn : n0 ≤ T.nx) {r : Nat → Int} {lv : List (Nat × gV)} {sv : List gV} {mu : gM} {z : Int32} (hr : sAg n0 r0 r) (hS : ∀ r', sAg T.nx r r' → sSatB P F r' T lv mu ∧ sRelS r' st sv) (ha : ∀ r', sAg T.nx r r' → a = sEv r' x) (hz : z.toInt = a.tdiv c) : gG X pc lv (gI z :: sv) mu := by
  unfold sDivN at e
  cases cb : sB P T.iv x with
  | none =>
    rw [cb] at e
    cases e
    exact W_anyI hW hn hr hS (i32_range _).1 (i32_range _).2
  | some g =>
    rw [cb] at e
    have hb := sB_ok (hS r (sAg.rf _ _)).1.2.2.1.1 (hS r (sAg.rf _ _)).1.2.2.1.2.2 cb
    rw [← ha r (sAg.rf _ _)] at hb
    have b1 := tdiv_mono hc hb.1
    have b2 := tdiv_mono hc hb.2
    cases e
    exact W_anyI hW hn hr hS (by omega) (by omega)
/-- a fact learnt on the way: T out of S -/
theorem le_all {S : sS} {l : sL} {r : Nat → Int} {lv : List (Nat × gV)} {mu : gM} {Z : (Nat → Int) → Prop} (hS : ∀ r', sAg S.nx r r' → sSatB P F r' S lv mu ∧ Z r') (hl : ∀ r', sAg S.nx r r' → sEv r' l ≤ 0) : ∃ T, sLe P S l = some T ∧ T.nx = S.nx ∧ sEqv S T ∧ ∀ r', sAg T.nx r r' → sSatB P F r' T lv mu ∧ Z r' := by
  obtain ⟨T, e1, k1, q1⟩ := sLe_ok (hS r (sAg.rf _ _)).1.2.2.1 (hl r (sAg.rf _ _))
  refine ⟨T, e1, q1.2.2.2.2.1, q1, fun r' h => ?_⟩
  rw [q1.2.2.2.2.1] at h
  obtain ⟨T', e2, k2, q2⟩ := sLe_ok (hS r' h).1.2.2.1 (hl r' h)
  cases e1.symm.trans e2
  exact ⟨eqv_sat q1 (hS r' h).1 k2, (hS r' h).2⟩
theorem e_idiv (h : gOK X) (hd : decode (gXy X) S.pc = .ok (.idiv, 1)) (e : sStep1 E code S .idiv 1 = some L) (hW : ∀ T ∈ L, sW X E.P F n0 r0 T) : sW X E.P F n0 r0 S := by
  intro r lv sv mu hn hr hS
  obtain ⟨pc, sl, st, me, iv, li, nx, mm⟩ := S
  rcases st with _ | ⟨(y | y) | y, _ | ⟨(x | x) | x, st⟩⟩
  all_goals try (cases e; done)
  obtain ⟨b, sv, rfl, h1, hb⟩ := popI hS
  obtain ⟨a, sv, rfl, h2, ha⟩ := popI h1
  have e1 : (match isK y with
    | some c => okB (decide (0 < c) && decide (c ≤ i32h)) (some (oList ((sLe E.P (pc, sl, .inl (.inl y) :: .inl (.inl x) :: st, me, iv, li, nx, mm) (sMul (-1) x)).bind (fun T => sDivP E.P T (pc + 1) st x c)) ++ oList ((sLe E.P (pc, sl, .inl (.inl y) :: .inl (.inl x) :: st, me, iv, li, nx, mm) (sAdd x (sK 1))).bind (fun T => sDivN E.P T (pc + 1) st x c))))
    | none => none) = some L := e
  cases cy : isK y with
  | none => rw [cy] at e1; cases e1
  | some c =>
    rw [cy] at e1
    obtain ⟨c1, e2⟩ := okB_ok e1
    simp only [Bool.and_eq_true, decide_eq_true_eq] at c1
    cases e2
    have hbc : b.toInt = c := (hb r (sAg.rf _ _)).trans (isK_ok cy)
    have hz : (a / b).toInt = a.toInt.tdiv c := by rw [x32_div (by omega), hbc]
    refine g_idiv h hd (x32_nz (by omega)) ?_
    by_cases h0 : 0 ≤ a.toInt
    · obtain ⟨T, t1, t2, t3, t4⟩ := le_all (l := sMul (-1) x) h2 (fun r' q => by rw [sEv_mul, ← ha r' q]; omega)
      cases cU : sDivP E.P T (pc + 1) st x c with
      | none =>
        unfold sDivP at cU
        split at cU
        · cases cU
        · split at cU <;> cases cU
      | some U =>
        refine W_divP c1.1 h0 cU (hW U (List.mem_append_left _ ?_)) (by rw [t2]; exact hn) hr t4 (fun r' q => ha r' (by rw [t2] at q; exact q)) hz
        rw [t1]
        show U ∈ oList (sDivP E.P T (pc + 1) st x c)
        rw [cU]
        exact List.mem_cons_self
    · obtain ⟨T, t1, t2, t3, t4⟩ := le_all (l := sAdd x (sK 1)) h2 (fun r' q => by rw [sEv_add, sEv_K, ← ha r' q]; omega)
      cases cU : sDivN E.P T (pc + 1) st x c with
      | none =>
        unfold sDivN at cU
        split at cU <;> cases cU
      | some U =>
        refine W_divN c1.1 cU (hW U (List.mem_append_right _ ?_)) (by rw [t2]; exact hn) hr t4 (fun r' q => ha r' (by rw [t2] at q; exact q)) hz
        rw [t1]
        show U ∈ oList (sDivN E.P T (pc + 1) st x c)
        rw [cU]
        exact List.mem_cons_self
theorem e_dup (h : gOK X) (hd : decode (gXy X) S.pc = .ok (.dup, 1)) (e : sStep1 E code S .dup 1 = some L) (hW : ∀ T ∈ L, sW X E.P F n0 r0 T) : sW X E.P F n0 r0 S := by
  intro r lv sv mu hn hr hS
  obtain ⟨pc, sl, st, me, iv, li, nx, mm⟩ := S
  rcases st with _ | ⟨v, st⟩
  all_goals try (cases e; done)
  have e1 : okB (Nat.beq (sCat v) 1) (one (pc + 1, sl, v :: v :: st, me, iv, li, nx, mm)) = some L := e
  obtain ⟨c1, e2⟩ := okB_ok e1
  rw [Nat.beq_eq] at c1
  cases e2
  obtain ⟨w, sv, rfl, h1, hv⟩ := popV hS
  exact g_dup h hd (by rw [← sRel_cat (hv r (sAg.rf _ _))]; exact c1) (hW _ List.mem_cons_self r lv _ mu hn hr (fun r' q => ⟨(h1 r' q).1, hv r' q, hv r' q, (h1 r' q).2⟩))
theorem e_dup2 (h : gOK X) (hd : decode (gXy X) S.pc = .ok (.dup2, 1)) (e : sStep1 E code S .dup2 1 = some L) (hW : ∀ T ∈ L, sW X E.P F n0 r0 T) : sW X E.P F n0 r0 S := by
  intro r lv sv mu hn hr hS
  obtain ⟨pc, sl, st, me, iv, li, nx, mm⟩ := S
  rcases st with _ | ⟨v, _ | ⟨w, st⟩⟩
  all_goals try (cases e; done)
  have e1 : okB (Nat.beq (sCat v) 1 && Nat.beq (sCat w) 1) (one (pc + 1, sl, v :: w :: v :: w :: st, me, iv, li, nx, mm)) = some L := e
  obtain ⟨c1, e2⟩ := okB_ok e1
  simp only [Bool.and_eq_true, Nat.beq_eq] at c1
  cases e2
  obtain ⟨v', sv, rfl, h1, hv⟩ := popV hS
  obtain ⟨w', sv, rfl, h2, hw⟩ := popV h1
  exact g_dup2 h hd (by rw [← sRel_cat (hv r (sAg.rf _ _))]; exact c1.1) (by rw [← sRel_cat (hw r (sAg.rf _ _))]; exact c1.2) (hW _ List.mem_cons_self r lv _ mu hn hr (fun r' q => ⟨(h2 r' q).1, hv r' q, hw r' q, hv r' q, hw r' q, (h2 r' q).2⟩))
theorem e_pop (h : gOK X) (hd : decode (gXy X) S.pc = .ok (.pop, 1)) (e : sStep1 E code S .pop 1 = some L) (hW : ∀ T ∈ L, sW X E.P F n0 r0 T) : sW X E.P F n0 r0 S := by
  intro r lv sv mu hn hr hS
  obtain ⟨pc, sl, st, me, iv, li, nx, mm⟩ := S
  rcases st with _ | ⟨v, st⟩
  all_goals try (cases e; done)
  have e1 : okB (Nat.beq (sCat v) 1) (one (pc + 1, sl, st, me, iv, li, nx, mm)) = some L := e
  obtain ⟨c1, e2⟩ := okB_ok e1
  rw [Nat.beq_eq] at c1
  cases e2
  obtain ⟨w, sv, rfl, h1, hv⟩ := popV hS
  exact g_pop h hd (by rw [← sRel_cat (hv r (sAg.rf _ _))]; exact c1) (hW _ List.mem_cons_self r lv _ mu hn hr h1)
theorem e_goto (h : gOK X) {off : Int} (hd : decode (gXy X) S.pc = .ok (.goto off, 3)) (e : sStep1 E code S (.goto off) 3 = some L) (hW : ∀ T ∈ L, sW X E.P F n0 r0 T) : sW X E.P F n0 r0 S := by
  intro r lv sv mu hn hr hS
  obtain ⟨pc, sl, st, me, iv, li, nx, mm⟩ := S
  have e1 : okB (sTgtOk pc off) (one (sGo (pc, sl, st, me, iv, li, nx, mm) (sTgt pc off) st)) = some L := e
  obtain ⟨c1, e2⟩ := okB_ok e1
  cases e2
  exact g_goto h hd (sTgt_ok c1) (hW _ List.mem_cons_self r lv _ mu hn hr hS)
theorem e_if (h : gOK X) {cd : Jvm.ClassFile.Cond} {off : Int} (hd : decode (gXy X) S.pc = .ok (.ifCond cd off, 3)) (e : sStep1 E code S (.ifCond cd off) 3 = some L) (hW : ∀ T ∈ L, sW X E.P F n0 r0 T) : sW X E.P F n0 r0 S := by
  intro r lv sv mu hn hr hS
  obtain ⟨pc, sl, st, me, iv, li, nx, mm⟩ := S
  rcases st with _ | ⟨(x | x) | x, st⟩
  all_goals try (cases e; done)
  have e1 : okB (sTgtOk pc off) (some (sBranch E.P (pc, sl, st, me, iv, li, nx, mm) x cd (sTgt pc off) (pc + 3))) = some L := e
  obtain ⟨c1, e2⟩ := okB_ok e1
  cases e2
  obtain ⟨a, sv, rfl, h1, ha⟩ := popI hS
  have b := W_branch hW hn hr h1 (v := a.toInt) (fun r' q => (ha r' q).symm)
  exact g_if h hd (sTgt_ok c1) (fun q => b.1 ((gc_if cd a).mp q)) (fun q => b.2 (fun z => q ((gc_if cd a).mpr z)))
theorem e_icmp (h : gOK X) {cd : Jvm.ClassFile.Cond} {off : Int} (hd : decode (gXy X) S.pc = .ok (.if_icmp cd off, 3)) (e : sStep1 E code S (.if_icmp cd off) 3 = some L) (hW : ∀ T ∈ L, sW X E.P F n0 r0 T) : sW X E.P F n0 r0 S := by
  intro r lv sv mu hn hr hS
  obtain ⟨pc, sl, st, me, iv, li, nx, mm⟩ := S
  rcases st with _ | ⟨(y | y) | y, _ | ⟨(x | x) | x, st⟩⟩
  all_goals try (cases e; done)
  have e1 : okB (sTgtOk pc off) (some (sBranch E.P (pc, sl, st, me, iv, li, nx, mm) (sSub x y) cd (sTgt pc off) (pc + 3))) = some L := e
  obtain ⟨c1, e2⟩ := okB_ok e1
  cases e2
  obtain ⟨b, sv, rfl, h1, hb⟩ := popI hS
  obtain ⟨a, sv, rfl, h2, ha⟩ := popI h1
  have w := W_branch hW hn hr h2 (v := a.toInt - b.toInt) (fun r' q => by rw [sEv_sub, ← ha r' q, ← hb r' q])
  exact g_icmp h hd (sTgt_ok c1) (fun q => w.1 ((gc_icmp cd a b).mp q)) (fun q => w.2 (fun z => q ((gc_icmp cd a b).mpr z)))
theorem e_lcmp (h : gOK X) (hC : sCodeOK X code) (hd : decode (gXy X) S.pc = .ok (.lcmp, 1)) (e : sStep1 E code S .lcmp 1 = some L) (hW : ∀ T ∈ L, sW X E.P F n0 r0 T) : sW X E.P F n0 r0 S := by
  intro r lv sv mu hn hr hS
  obtain ⟨pc, sl, st, me, iv, li, nx, mm⟩ := S
  rcases st with _ | ⟨(y | y) | y, _ | ⟨(x | x) | x, st⟩⟩
  all_goals try (cases e; done)
  obtain ⟨b, sv, rfl, h1, hb⟩ := popL hS
  obtain ⟨a, sv, rfl, h2, ha⟩ := popL h1
  have e1 : (match cAt code (pc + 1) with
    | some (.ifCond cd off, 3) => okB (sTgtOk (pc + 1) off) (some (sBranch E.P (pc, sl, st, me, iv, li, nx, mm) (sSub x y) cd (sTgt (pc + 1) off) (pc + 4)))
    | _ => none) = some L := e
  split at e1
  · rename_i cd off cA
    obtain ⟨c1, e2⟩ := okB_ok e1
    cases e2
    have w := W_branch hW hn hr h2 (v := a.toInt - b.toInt) (fun r' q => by rw [sEv_sub, ← ha r' q, ← hb r' q])
    exact g_lcmp h hd (g_if h (hC _ _ cA) (sTgt_ok c1) (fun q => w.1 ((gc_lcmp cd a b).mp q)) (fun q => w.2 (fun z => q ((gc_lcmp cd a b).mpr z))))
  · cases e1
theorem e_ifnull (h : gOK X) {off : Int} (hd : decode (gXy X) S.pc = .ok (.ifnull off, 3)) (e : sStep1 E code S (.ifnull off) 3 = some L) (hW : ∀ T ∈ L, sW X E.P F n0 r0 T) : sW X E.P F n0 r0 S := by
  intro r lv sv mu hn hr hS
  obtain ⟨pc, sl, st, me, iv, li, nx, mm⟩ := S
  rcases st with _ | ⟨(x | x) | (_ | x), st⟩
  all_goals try (cases e; done)
  · have e1 : okB (sTgtOk pc off) (one (sGo (pc, sl, .inr none :: st, me, iv, li, nx, mm) (sTgt pc off) st)) = some L := e
    obtain ⟨c1, e2⟩ := okB_ok e1
    cases e2
    obtain ⟨sv, rfl, h1⟩ := popR hS
    exact g_ifnull h hd (sTgt_ok c1) (hW _ List.mem_cons_self r lv _ mu hn hr h1)
  · have e1 : okB (sTgtOk pc off) (one (sGo (pc, sl, .inr (some x) :: st, me, iv, li, nx, mm) (pc + 3) st)) = some L := e
    obtain ⟨c1, e2⟩ := okB_ok e1
    cases e2
    obtain ⟨sv, rfl, h1⟩ := popR hS
    exact g_ifnull h hd (sTgt_ok c1) (hW _ List.mem_cons_self r lv _ mu hn hr h1)
theorem e_ifnonnull (h : gOK X) {off : Int} (hd : decode (gXy X) S.pc = .ok (.ifnonnull off, 3)) (e : sStep1 E code S (.ifnonnull off) 3 = some L) (hW : ∀ T ∈ L, sW X E.P F n0 r0 T) : sW X E.P F n0 r0 S := by
  intro r lv sv mu hn hr hS
  obtain ⟨pc, sl, st, me, iv, li, nx, mm⟩ := S
  rcases st with _ | ⟨(x | x) | (_ | x), st⟩
  all_goals try (cases e; done)
  · have e1 : okB (sTgtOk pc off) (one (sGo (pc, sl, .inr none :: st, me, iv, li, nx, mm) (pc + 3) st)) = some L := e
    obtain ⟨c1, e2⟩ := okB_ok e1
    cases e2
    obtain ⟨sv, rfl, h1⟩ := popR hS
    exact g_ifnonnull h hd (sTgt_ok c1) (hW _ List.mem_cons_self r lv _ mu hn hr h1)
  · have e1 : okB (sTgtOk pc off) (one (sGo (pc, sl, .inr (some x) :: st, me, iv, li, nx, mm) (sTgt pc off) st)) = some L := e
    obtain ⟨c1, e2⟩ := okB_ok e1
    cases e2
    obtain ⟨sv, rfl, h1⟩ := popR hS
    exact g_ifnonnull h hd (sTgt_ok c1) (hW _ List.mem_cons_self r lv _ mu hn hr h1)
theorem W_switch {T0 : sS} {pc : Nat} {x : sL} {lo : Int} {r : Nat → Int} {lv : List (Nat × gV)} {sv : List gV} {mu : gM} (hn : n0 ≤ T0.nx) (hr : sAg n0 r0 r) (hS : ∀ r', sAg T0.nx r r' → sSatB P F r' T0 lv mu ∧ sRelS r' T0.st sv) {v : Int} (hv : ∀ r', sAg T0.nx r r' → v = sEv r' x) : ∀ (offs : List Int) (k j : Nat) (o : Int), (∀ T ∈ sSwitch P T0 pc x lo k offs, sW X P F n0 r0 T) → offs[j]? = some o → v = lo + ((k + j : Nat) : Int) → gG X (sTgt pc o) lv sv mu
  | [], _, _, _, _, e, _ => by cases e
  | o0 :: t, k, 0, o, hW, e, q => by
    cases e
    refine W_cond (cd := .eq) (d := sAdd x (sK (-(lo + (k : Int))))) (fun T eT => hW T (List.mem_append_left _ ?_)) hn hr hS (fun r' z => ?_)
    · have eT2 : ((sEq P T0 (sAdd x (sK (-(lo + (k : Int)))))).map (fun T => sAt T (sTgt pc o0))) = some T := eT
      rw [eT2]
      exact List.mem_cons_self
    · show sEv r' _ = 0
      rw [sEv_add, sEv_K, ← hv r' z]
      omega
  | o0 :: t, k, j + 1, o, hW, e, q => W_switch hn hr hS hv t (k + 1) j o (fun T hT => hW T (List.mem_append_right _ hT)) (by rw [List.getElem?_cons_succ] at e; exact e) (by rw [q]; congr 2; omega)
theorem e_table (h : gOK X) {dflt lo hi : Int} {offs : Array Int} {len : Nat} (hd : decode (gXy X) S.pc = .ok (.tableswitch dflt lo hi offs, len)) (e : sStep1 E code S (.tableswitch dflt lo hi offs) len = some L) (hW : ∀ T ∈ L, sW X E.P F n0 r0 T) : sW X E.P F n0 r0 S := by
  intro r lv sv mu hn hr hS
  obtain ⟨pc, sl, st, me, iv, li, nx, mm⟩ := S
  rcases st with _ | ⟨(x | x) | x, st⟩
  all_goals try (cases e; done)
  have e1 : okB (sTgtOk pc dflt && (offs.toList.all (fun o => sTgtOk pc o) && decide ((offs.toList.length : Int) = hi - lo + 1)))
      (some (sSwitch E.P (pc, sl, st, me, iv, li, nx, mm) pc x lo 0 offs.toList ++ (oList ((sLe E.P (pc, sl, st, me, iv, li, nx, mm) (sAdd x (sK (1 - lo)))).map (fun T => sAt T (sTgt pc dflt))) ++ oList ((sLe E.P (pc, sl, st, me, iv, li, nx, mm) (sAdd (sMul (-1) x) (sK (hi + 1)))).map (fun T => sAt T (sTgt pc dflt)))))) = some L := e
  obtain ⟨c1, e2⟩ := okB_ok e1
  simp only [Bool.and_eq_true, decide_eq_true_eq, List.all_eq_true] at c1
  obtain ⟨c1, c2, c3⟩ := c1
  cases e2
  obtain ⟨a, sv, rfl, h1, ha⟩ := popI hS
  by_cases l1 : a.toInt < lo
  · refine g_tabOut h hd (.inl l1) (sTgt_ok c1) (W_cond (S := (pc, sl, st, me, iv, li, nx, mm)) (tgt := sTgt pc dflt) (cd := .le) (d := sAdd x (sK (1 - lo))) (fun T eT => hW T (List.mem_append_right _ (List.mem_append_left _ ?_))) hn hr h1 (fun r' z => ?_))
    · have eT2 : ((sLe E.P (pc, sl, st, me, iv, li, nx, mm) (sAdd x (sK (1 - lo)))).map (fun T => sAt T (sTgt pc dflt))) = some T := eT
      rw [eT2]
      exact List.mem_cons_self
    · show sEv r' _ ≤ 0
      rw [sEv_add, sEv_K, ← ha r' z]
      omega
  · by_cases l2 : hi < a.toInt
    · refine g_tabOut h hd (.inr l2) (sTgt_ok c1) (W_cond (S := (pc, sl, st, me, iv, li, nx, mm)) (tgt := sTgt pc dflt) (cd := .le) (d := sAdd (sMul (-1) x) (sK (hi + 1))) (fun T eT => hW T (List.mem_append_right _ (List.mem_append_right _ ?_))) hn hr h1 (fun r' z => ?_))
      · have eT2 : ((sLe E.P (pc, sl, st, me, iv, li, nx, mm) (sAdd (sMul (-1) x) (sK (hi + 1)))).map (fun T => sAt T (sTgt pc dflt))) = some T := eT
        rw [eT2]
        exact List.mem_cons_self
      · show sEv r' _ ≤ 0
        rw [sEv_add, sEv_mul, sEv_K, ← ha r' z]
        omega
    · have hj : (a.toInt - lo).toNat < offs.toList.length := by omega
      have ho := List.getElem?_eq_getElem hj
      refine g_tabIn h hd l1 l2 (off := offs.toList[(a.toInt - lo).toNat]) (by rw [← Array.getElem?_toList]; exact ho) (sTgt_ok (c2 _ (List.getElem_mem hj))) ?_
      exact W_switch (T0 := (pc, sl, st, me, iv, li, nx, mm)) (lo := lo) hn hr h1 ha offs.toList 0 _ _ (fun T hT => hW T (List.mem_append_left _ hT)) ho (by omega)
theorem e_iinc (h : gOK X) {i : Nat} {k : Int} (hx : i < gXn X) (hk : -32768 ≤ k ∧ k ≤ 32767) (hd : decode (gXy X) S.pc = .ok (.iinc i k, 3)) (e : sStep1 E code S (.iinc i k) 3 = some L) (hW : ∀ T ∈ L, sW X E.P F n0 r0 T) : sW X E.P F n0 r0 S := by
  intro r lv sv mu hn hr hS
  obtain ⟨pc, sl, st, me, iv, li, nx, mm⟩ := S
  have e1 : (match sLk sl i with
    | some (.inl (.inl l)) => if sRanged E.P (pc, sl, st, me, iv, li, nx, mm) (sAdd l (sK k)) i32l i32h then one (pc + 3, sSt1 sl i (.inl (.inl (sAdd l (sK k)))), st, me, iv, li, nx, mm)
      else one (pc + 3, sSt1 sl i (.inl (.inl (sY nx))), st, me, (nx, i32l, i32h) :: iv, li, nx + 1, mm)
    | _ => none) = some L := e
  split at e1
  · rename_i l c
    obtain ⟨v, v1, v2, v3⟩ := gAtL_ok _ _ i _ r (hS r (sAg.rf _ _)).1.1 c
    rcases v with (x | x) | x
    · have hv : ∀ r', sAg nx r r' → x.toInt = sEv r' l := fun r' q => by
        obtain ⟨v, h4, -, h5⟩ := gAtL_ok _ _ i _ r' (hS r' q).1.1 c
        cases v1.symm.trans h4
        exact h5
      refine g_iinc h hd v2 hx ?_
      have ek : (Int32.ofInt k).toInt = k := of_i32 (by unfold i32l; omega) (by unfold i32h; omega)
      split at e1
      · rename_i cR
        cases e1
        refine hW _ List.mem_cons_self r _ sv mu hn hr (fun r' q => ⟨⟨relL_st1 (hS r' q).1.1 i ?_, (hS r' q).1.2⟩, (hS r' q).2⟩)
        have q1 := sRanged_ok (hS r' q).1.2.2.1.1 (hS r' q).1.2.2.1.2.2 cR
        show (x + Int32.ofInt k).toInt = sEv r' (sAdd l (sK k))
        rw [sEv_add, sEv_K, ← hv r' q] at q1 ⊢
        have q2 := i32_rg q1.1 q1.2
        rw [_root_.Jvm.Kit.i32_add (by rw [ek]; exact q2.1) (by rw [ek]; exact q2.2), ek]
      · cases e1
        have rg := i32_range (x + Int32.ofInt k)
        refine hW _ List.mem_cons_self (sUp r nx (x + Int32.ofInt k).toInt) _ sv mu (Nat.le_succ_of_le hn) (hr.tr sUp_ag hn) (fun r' q => ?_)
        obtain ⟨k1, k2, k3⟩ := new_ok hS rg.1 rg.2 r' q
        exact ⟨⟨relL_st1 k1.1 i (show (x + Int32.ofInt k).toInt = sEv r' (sY nx) by rw [sEv_Y]; exact k3.symm), k1.2⟩, k2⟩
    · cases v3
    · cases v3
  · cases e1
end STEPC
