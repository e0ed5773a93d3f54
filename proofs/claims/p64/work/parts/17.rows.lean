/-! THE ENGINE IS SOUND, instruction by instruction: constants of the pool, fields, rows -/
/-- the pool's tables speak of this frame -/
def sEnvK (X : gX) (E : sE) : Prop :=
  (∀ i v, aFind E.CI i = some v → Jvm.Cond.constant (gXo X) i (Int32.ofInt v) ∈ TW ∧ i32l ≤ v ∧ v ≤ i32h) ∧
  (∀ i v, aFind E.CL i = some v → Jvm.Cond.constantLong (gXo X) i (Int64.ofInt v) ∈ TW ∧ i64l ≤ v ∧ v ≤ i64h) ∧
  (∀ i j, aFind E.CS i = some j → ∃ tx, vk_R (gXo X) i tx (gXal X (1000 + j)) (gXs X)) ∧
  (∀ i cf, aFind E.F i = some cf → ∃ C T N, gcls cf.1 C T N ∧ cf.2.1 < N ∧ Jvm.Cond.fieldLink (gXo X) i C (T cf.2.1).2.1 (T cf.2.1).2.2.1 ∈ TW ∧ (cf.2.2 = 0 → (T cf.2.1).2.2.2 = false ∧ parseFieldDescriptor (T cf.2.1).2.2.1 = some .int) ∧ (cf.2.2 = 1 → (T cf.2.1).2.2.2 = false ∧ parseFieldDescriptor (T cf.2.1).2.2.1 = some .boolean))
def sEnvL (E : sE) : Prop :=
  (∀ k t b n, gAt E.G k = some (.inr (.inl (t, b, n))) → n < 2147483648 ∧ b < 1000000) ∧ (∀ k t ids, gAt E.G k = some (.inr (.inr (t, ids))) → ids.length < 2147483648)
theorem x32_01 {x : Int32} (h1 : 0 ≤ x.toInt) (h2 : x.toInt ≤ 1) : x = 0 ∨ x = 1 := by
  have : x.toInt = 0 ∨ x.toInt = 1 := by omega
  rcases this with c | c
  · exact .inl (x32_eq c)
  · exact .inr (x32_eq c)
theorem g_ldcS {X : gX} {pc : Nat} {lv : List (Nat × gV)} {st : List gV} {mu : gM} (h : gOK X) {i j : Nat} {tx : String} (hw : vk_R (gXo X) i tx (gXal X j) (gXs X)) (hd : decode (gXy X) pc = .ok (.ldc i, 2)) (k : gG X (pc + 2) lv (gR j :: st) mu) : gG X pc lv st mu :=
  fun H locs ls hR hl => va_ldcS h.x h.b h.o hw hd (k H locs ls hR hl)
section STEPD
variable {X : gX} {E : sE} {F : Nat → Int → gM → Int} {n0 : Nat} {r0 : Nat → Int} {code : sCode} {S : sS} {L : List sS}
theorem of_i32' {v : Int} (h : i32l ≤ v ∧ v ≤ i32h) (r' : Nat → Int) : (Int32.ofInt v).toInt = sEv r' (sK v) := by rw [sEv_K, of_i32 h.1 h.2]
theorem of_i64' {v : Int} (h : i64l ≤ v ∧ v ≤ i64h) (r' : Nat → Int) : (Int64.ofInt v).toInt = sEv r' (sK v) := by rw [sEv_K, of_i64 h.1 h.2]
theorem e_ldc (h : gOK X) (hK : sEnvK X E) {i : Nat} (hd : decode (gXy X) S.pc = .ok (.ldc i, 2)) (e : sStep1 E code S (.ldc i) 2 = some L) (hW : ∀ T ∈ L, sW X E.P F n0 r0 T) : sW X E.P F n0 r0 S := by
  intro r lv sv mu hn hr hS
  obtain ⟨pc, sl, st, me, iv, li, nx, mm⟩ := S
  have e1 : (match aFind E.CI i with
    | some v => one (sPush (pc, sl, st, me, iv, li, nx, mm) (pc + 2) st (.inl (.inl (sK v))))
    | none => match aFind E.CS i with
      | some j => one (sPush (pc, sl, st, me, iv, li, nx, mm) (pc + 2) st (.inr (some (1000 + j))))
      | none => none) = some L := e
  cases c : aFind E.CI i with
  | some v =>
    rw [c] at e1
    cases e1
    have k := hK.1 i v c
    exact g_ldc h k.1 hd (W_push (hW _ List.mem_cons_self) hn hr hS (fun r' _ => of_i32' k.2 r'))
  | none =>
    cases c2 : aFind E.CS i with
    | some j =>
      rw [c, c2] at e1
      cases e1
      obtain ⟨tx, k⟩ := hK.2.2.1 i j c2
      exact g_ldcS h k hd (W_push (hW _ List.mem_cons_self) hn hr hS (fun r' _ => rfl))
    | none =>
      rw [c, c2] at e1
      cases e1
theorem e_ldcw (h : gOK X) (hK : sEnvK X E) {i : Nat} (hd : decode (gXy X) S.pc = .ok (.ldc_w i, 3)) (e : sStep1 E code S (.ldc_w i) 3 = some L) (hW : ∀ T ∈ L, sW X E.P F n0 r0 T) : sW X E.P F n0 r0 S := by
  intro r lv sv mu hn hr hS
  obtain ⟨pc, sl, st, me, iv, li, nx, mm⟩ := S
  have e1 : (match aFind E.CI i with
    | some v => one (sPush (pc, sl, st, me, iv, li, nx, mm) (pc + 3) st (.inl (.inl (sK v))))
    | none => none) = some L := e
  cases c : aFind E.CI i with
  | some v =>
    rw [c] at e1
    cases e1
    have k := hK.1 i v c
    exact g_ldcw h k.1 hd (W_push (hW _ List.mem_cons_self) hn hr hS (fun r' _ => of_i32' k.2 r'))
  | none =>
    rw [c] at e1
    cases e1
theorem e_ldc2 (h : gOK X) (hK : sEnvK X E) {i : Nat} (hd : decode (gXy X) S.pc = .ok (.ldc2_w i, 3)) (e : sStep1 E code S (.ldc2_w i) 3 = some L) (hW : ∀ T ∈ L, sW X E.P F n0 r0 T) : sW X E.P F n0 r0 S := by
  intro r lv sv mu hn hr hS
  obtain ⟨pc, sl, st, me, iv, li, nx, mm⟩ := S
  have e1 : (match aFind E.CL i with
    | some v => one (sPush (pc, sl, st, me, iv, li, nx, mm) (pc + 3) st (.inl (.inr (sK v))))
    | none => none) = some L := e
  cases c : aFind E.CL i with
  | some v =>
    rw [c] at e1
    cases e1
    have k := hK.2.1 i v c
    exact g_ldc2 h k.1 hd (W_push (hW _ List.mem_cons_self) hn hr hS (fun r' _ => of_i64' k.2 r'))
  | none =>
    rw [c] at e1
    cases e1
theorem e_getfield (h : gOK X) (hG : sEnvG X E) (hK : sEnvK X E) {i : Nat} (hd : decode (gXy X) S.pc = .ok (.getfield i, 3)) (e : sStep1 E code S (.getfield i) 3 = some L) (hW : ∀ T ∈ L, sW X E.P F n0 r0 T) : sW X E.P F n0 r0 S := by
  intro r lv sv mu hn hr hS
  obtain ⟨pc, sl, st, me, iv, li, nx, mm⟩ := S
  rcases st with _ | ⟨(x | x) | (_ | k), st⟩
  all_goals try (cases e; done)
  obtain ⟨sv, rfl, h1⟩ := popR hS
  have e1 : (match aFind E.F i, gAt E.G k with
    | some cf, some (.inl (ci, fs)) => if Nat.beq cf.1 ci then (match fs[cf.2.1]? with
      | some (.inl p) => sRdI E (pc, sl, .inr (some k) :: st, me, iv, li, nx, mm) (pc + 3) st p
      | some (.inr j) => one (sPush (pc, sl, .inr (some k) :: st, me, iv, li, nx, mm) (pc + 3) st (.inr (some j)))
      | none => none) else none
    | _, _ => none) = some L := e
  split at e1
  · rename_i cf ci fs c1 c2
    split at e1
    · rename_i c3
      rw [Nat.beq_eq] at c3
      obtain ⟨C, T, N, k1, k2, k3, -, -⟩ := hK.2.2.2 i cf c1
      rw [c3] at k1
      have hk := hG.1 k _ c2
      split at e1
      · rename_i p c4
        refine g_getfield h k1 k2 hk c4 k3 hd ?_
        exact W_rdI e1 hW hn hr h1 (hG.2.2.2.1 k ci fs c2 p (List.mem_of_getElem? c4))
      · rename_i j c4
        cases e1
        refine g_getfield h k1 k2 hk c4 k3 hd ?_
        exact W_push (hW _ List.mem_cons_self) hn hr h1 (fun r' _ => rfl)
      · cases e1
    · cases e1
  · cases e1
theorem e_putfield (h : gOK X) (hG : sEnvG X E) (hF : sEnvF E F) (hK : sEnvK X E) {i : Nat} (hd : decode (gXy X) S.pc = .ok (.putfield i, 3)) (e : sStep1 E code S (.putfield i) 3 = some L) (hW : ∀ T ∈ L, sW X E.P F n0 r0 T) : sW X E.P F n0 r0 S := by
  intro r lv sv mu hn hr hS
  obtain ⟨pc, sl, st, me, iv, li, nx, mm⟩ := S
  rcases st with _ | ⟨(l | l) | l, _ | ⟨(x | x) | (_ | k), st⟩⟩
  all_goals try (cases e; done)
  obtain ⟨a, sv, rfl, h1, ha⟩ := popI hS
  obtain ⟨sv, rfl, h2⟩ := popR h1
  have e1 : (match aFind E.F i, gAt E.G k with
    | some cf, some (.inl (ci, fs)) => if Nat.beq cf.1 ci then (match fs[cf.2.1]? with
      | some (.inl p) => okB (Nat.beq cf.2.2 0 || (Nat.beq cf.2.2 1 && sRanged E.P (pc, sl, .inl (.inl l) :: .inr (some k) :: st, me, iv, li, nx, mm) l 0 1)) (sWr E (pc, sl, .inl (.inl l) :: .inr (some k) :: st, me, iv, li, nx, mm) (pc + 3) st p p l)
      | _ => none) else none
    | _, _ => none) = some L := e
  split at e1
  · rename_i cf ci fs c1 c2
    split at e1
    · rename_i c3
      rw [Nat.beq_eq] at c3
      obtain ⟨C, T, N, k1, k2, k3, k4, k5⟩ := hK.2.2.2 i cf c1
      rw [c3] at k1
      have hk := hG.1 k _ c2
      split at e1
      · rename_i p c4
        obtain ⟨c5, e2⟩ := okB_ok e1
        simp only [Bool.or_eq_true, Bool.and_eq_true, Nat.beq_eq] at c5
        have fin := W_wr hG hF e2 (Nat.le_refl p) (Nat.le_refl p) hW hn hr h2 (v := a.toInt) (fun r' q => ha r' q)
        rcases c5 with c5 | ⟨c5, c6⟩
        · exact g_putfield h hG.2.1 k1 k2 hk c4 k3 (k4 c5).1 (k4 c5).2 rfl rfl hd fin
        · have q1 := sRanged_ok (hS r (sAg.rf _ _)).1.2.2.1.1 (hS r (sAg.rf _ _)).1.2.2.1.2.2 c6
          rw [← ha r (sAg.rf _ _)] at q1
          rcases x32_01 q1.1 q1.2 with rfl | rfl
          · exact g_putfield h hG.2.1 k1 k2 hk c4 k3 (k5 c5).1 (k5 c5).2 rfl rfl hd fin
          · exact g_putfield h hG.2.1 k1 k2 hk c4 k3 (k5 c5).1 (k5 c5).2 rfl rfl hd fin
      · cases e1
    · cases e1
  · cases e1
/-- a row's index taken: what follows stands in the state T -/
theorem sIx_all {st : List sA} {l : sL} {n : Nat} {o : Option (sS × Nat × Nat)} (e : sIx E S l n = some o) (hlt : n < 2147483648) {x : Int32} {r : Nat → Int} {lv : List (Nat × gV)} {sv : List gV} {mu : gM} (hS : ∀ r', sAg S.nx r r' → sSatB E.P F r' S lv mu ∧ sRelS r' st sv) (hx : ∀ r', sAg S.nx r r' → x.toInt = sEv r' l) : ∃ T a b, o = some (T, a, b) ∧ T.nx = S.nx ∧ sEqv S T ∧ (∀ r', sAg T.nx r r' → sSatB E.P F r' T lv mu ∧ sRelS r' st sv) ∧ (∀ r', sAg T.nx r r' → x.toInt = sEv r' l) ∧ vp_in x n ∧ 0 ≤ x.toInt ∧ x.toInt < (n : Int) ∧ a ≤ x.toInt.toNat ∧ x.toInt.toNat ≤ b ∧ b < n := by
  obtain ⟨T, a, b, k1, k2, k3, k4, k5, k6, k7, k8⟩ := sIx_ok e hlt (fun r' q => ⟨(hS r' q).1.2.2.1, hx r' q⟩)
  have e5 := k2.2.2.2.2.1
  refine ⟨T, a, b, k1, e5, k2, fun r' q => ?_, fun r' q => hx r' (by rw [e5] at q; exact q), vp_in_iff.mpr ⟨k4, k5⟩, k4, k5, k6, k7, k8⟩
  rw [e5] at q
  exact ⟨eqv_sat k2 (hS r' q).1 (k3 r' q), (hS r' q).2⟩
theorem e_iaload (h : gOK X) (hG : sEnvG X E) (hL : sEnvL E) (hd : decode (gXy X) S.pc = .ok (.iaload, 1)) (e : sStep1 E code S .iaload 1 = some L) (hW : ∀ T ∈ L, sW X E.P F n0 r0 T) : sW X E.P F n0 r0 S := by
  intro r lv sv mu hn hr hS
  obtain ⟨pc, sl, st, me, iv, li, nx, mm⟩ := S
  rcases st with _ | ⟨(i | i) | i, _ | ⟨(x | x) | (_ | k), st⟩⟩
  all_goals try (cases e; done)
  obtain ⟨a, sv, rfl, h1, ha⟩ := popI hS
  obtain ⟨sv, rfl, h2⟩ := popR h1
  have e1 : (match gAt E.G k with
    | some (.inr (.inl (0, b, m))) => match sIx E (pc, sl, .inl (.inl i) :: .inr (some k) :: st, me, iv, li, nx, mm) i m with
      | some (some h) => sRdAI E h.1 (pc + 1) st b m i h.2
      | some none => some []
      | none => none
    | _ => none) = some L := e
  split at e1
  · rename_i b m c2
    have hl := hL.1 k _ _ _ c2
    have hk := hG.1 k _ c2
    split at e1
    · rename_i z c3
      obtain ⟨T, u, w, k1, k2, k3, k4, k5, k6, k7, k8, k9, k10, k11⟩ := sIx_all c3 hl.1 h2 ha
      cases k1
      exact g_iaload h hk k6 hd (W_rdAI hG e1 k9 k10 k11 k7 hl.2 (fun j hj => (hG.2.2.2.2 k _ _ _ c2 j hj).1 (by decide)) hW (by rw [k2]; exact hn) hr k4 k5)
    · rename_i c3
      obtain ⟨T, u, w, k1, -⟩ := sIx_all c3 hl.1 h2 ha
      cases k1
    · cases e1
  · cases e1
theorem e_baload (h : gOK X) (hG : sEnvG X E) (hL : sEnvL E) (hd : decode (gXy X) S.pc = .ok (.baload, 1)) (e : sStep1 E code S .baload 1 = some L) (hW : ∀ T ∈ L, sW X E.P F n0 r0 T) : sW X E.P F n0 r0 S := by
  intro r lv sv mu hn hr hS
  obtain ⟨pc, sl, st, me, iv, li, nx, mm⟩ := S
  rcases st with _ | ⟨(i | i) | i, _ | ⟨(x | x) | (_ | k), st⟩⟩
  all_goals try (cases e; done)
  obtain ⟨a, sv, rfl, h1, ha⟩ := popI hS
  obtain ⟨sv, rfl, h2⟩ := popR h1
  have e1 : (match gAt E.G k with
    | some (.inr (.inl (1, b, m))) => match sIx E (pc, sl, .inl (.inl i) :: .inr (some k) :: st, me, iv, li, nx, mm) i m with
      | some (some h) => sRdAI E h.1 (pc + 1) st b m i h.2
      | some none => some []
      | none => none
    | some (.inr (.inl (2, b, m))) => match sIx E (pc, sl, .inl (.inl i) :: .inr (some k) :: st, me, iv, li, nx, mm) i m with
      | some (some h) => sRdAI E h.1 (pc + 1) st b m i h.2
      | some none => some []
      | none => none
    | _ => none) = some L := e
  split at e1
  · rename_i b m c2
    have hl := hL.1 k _ _ _ c2
    have hk := hG.1 k _ c2
    split at e1
    · rename_i z c3
      obtain ⟨T, u, w, k1, k2, k3, k4, k5, k6, k7, k8, k9, k10, k11⟩ := sIx_all c3 hl.1 h2 ha
      cases k1
      exact g_baload h hk k6 hd (W_rdAI hG e1 k9 k10 k11 k7 hl.2 (fun j hj => (hG.2.2.2.2 k _ _ _ c2 j hj).1 (by decide)) hW (by rw [k2]; exact hn) hr k4 k5)
    · rename_i c3
      obtain ⟨T, u, w, k1, -⟩ := sIx_all c3 hl.1 h2 ha
      cases k1
    · cases e1
  · rename_i b m c2
    have hl := hL.1 k _ _ _ c2
    have hk := hG.1 k _ c2
    split at e1
    · rename_i z c3
      obtain ⟨T, u, w, k1, k2, k3, k4, k5, k6, k7, k8, k9, k10, k11⟩ := sIx_all c3 hl.1 h2 ha
      cases k1
      exact g_zaload h hk k6 hd (W_rdAI hG e1 k9 k10 k11 k7 hl.2 (fun j hj => (hG.2.2.2.2 k _ _ _ c2 j hj).1 (by decide)) hW (by rw [k2]; exact hn) hr k4 k5)
    · rename_i c3
      obtain ⟨T, u, w, k1, -⟩ := sIx_all c3 hl.1 h2 ha
      cases k1
    · cases e1
  · cases e1
theorem e_laload (h : gOK X) (hG : sEnvG X E) (hL : sEnvL E) (hd : decode (gXy X) S.pc = .ok (.laload, 1)) (e : sStep1 E code S .laload 1 = some L) (hW : ∀ T ∈ L, sW X E.P F n0 r0 T) : sW X E.P F n0 r0 S := by
  intro r lv sv mu hn hr hS
  obtain ⟨pc, sl, st, me, iv, li, nx, mm⟩ := S
  rcases st with _ | ⟨(i | i) | i, _ | ⟨(x | x) | (_ | k), st⟩⟩
  all_goals try (cases e; done)
  obtain ⟨a, sv, rfl, h1, ha⟩ := popI hS
  obtain ⟨sv, rfl, h2⟩ := popR h1
  have e1 : (match gAt E.G k with
    | some (.inr (.inl (3, b, m))) => match sIx E (pc, sl, .inl (.inl i) :: .inr (some k) :: st, me, iv, li, nx, mm) i m with
      | some (some h) => sRdAL E h.1 (pc + 1) st b m i h.2
      | some none => some []
      | none => none
    | _ => none) = some L := e
  split at e1
  · rename_i b m c2
    have hl := hL.1 k _ _ _ c2
    have hk := hG.1 k _ c2
    split at e1
    · rename_i z c3
      obtain ⟨T, u, w, k1, k2, k3, k4, k5, k6, k7, k8, k9, k10, k11⟩ := sIx_all c3 hl.1 h2 ha
      cases k1
      exact g_laload h hk k6 hd (W_rdAL hG e1 k9 k10 k11 k7 hl.2 (fun j hj => (hG.2.2.2.2 k _ _ _ c2 j hj).2) hW (by rw [k2]; exact hn) hr k4 k5)
    · rename_i c3
      obtain ⟨T, u, w, k1, -⟩ := sIx_all c3 hl.1 h2 ha
      cases k1
    · cases e1
  · cases e1
theorem e_iastore (h : gOK X) (hG : sEnvG X E) (hF : sEnvF E F) (hL : sEnvL E) (hd : decode (gXy X) S.pc = .ok (.iastore, 1)) (e : sStep1 E code S .iastore 1 = some L) (hW : ∀ T ∈ L, sW X E.P F n0 r0 T) : sW X E.P F n0 r0 S := by
  intro r lv sv mu hn hr hS
  obtain ⟨pc, sl, st, me, iv, li, nx, mm⟩ := S
  rcases st with _ | ⟨(l | l) | l, _ | ⟨(i | i) | i, _ | ⟨(x | x) | (_ | k), st⟩⟩⟩
  all_goals try (cases e; done)
  obtain ⟨z, sv, rfl, h0, hz⟩ := popI hS
  obtain ⟨a, sv, rfl, h1, ha⟩ := popI h0
  obtain ⟨sv, rfl, h2⟩ := popR h1
  have e1 : (match gAt E.G k with
    | some (.inr (.inl (0, b, m))) => match sIx E (pc, sl, .inl (.inl l) :: .inl (.inl i) :: .inr (some k) :: st, me, iv, li, nx, mm) i m with
      | some (some h) => sWr E h.1 (pc + 1) st (b + h.2.1) (b + h.2.2) l
      | some none => some []
      | none => none
    | _ => none) = some L := e
  split at e1
  · rename_i b m c2
    have hl := hL.1 k _ _ _ c2
    have hk := hG.1 k _ c2
    split at e1
    · rename_i y c3
      obtain ⟨T, u, w, k1, k2, k3, k4, k5, k6, k7, k8, k9, k10, k11⟩ := sIx_all c3 hl.1 h2 ha
      cases k1
      have fin := W_wr hG hF e1 (p := b + a.toInt.toNat) (Nat.add_le_add_left k9 b) (Nat.add_le_add_left k10 b) hW (by rw [k2]; exact hn) hr k4 (v := z.toInt) (fun r' q => hz r' (by rw [k2] at q; exact q))
      exact g_iastore h hG.2.1 hk k6 hd fin
    · rename_i c3
      obtain ⟨T, u, w, k1, -⟩ := sIx_all c3 hl.1 h2 ha
      cases k1
    · cases e1
  · cases e1
theorem e_bastore (h : gOK X) (hG : sEnvG X E) (hF : sEnvF E F) (hL : sEnvL E) (hd : decode (gXy X) S.pc = .ok (.bastore, 1)) (e : sStep1 E code S .bastore 1 = some L) (hW : ∀ T ∈ L, sW X E.P F n0 r0 T) : sW X E.P F n0 r0 S := by
  intro r lv sv mu hn hr hS
  obtain ⟨pc, sl, st, me, iv, li, nx, mm⟩ := S
  rcases st with _ | ⟨(l | l) | l, _ | ⟨(i | i) | i, _ | ⟨(x | x) | (_ | k), st⟩⟩⟩
  all_goals try (cases e; done)
  obtain ⟨z, sv, rfl, h0, hz⟩ := popI hS
  obtain ⟨a, sv, rfl, h1, ha⟩ := popI h0
  obtain ⟨sv, rfl, h2⟩ := popR h1
  have e1 : (match gAt E.G k with
    | some (.inr (.inl (1, b, m))) => match sIx E (pc, sl, .inl (.inl l) :: .inl (.inl i) :: .inr (some k) :: st, me, iv, li, nx, mm) i m with
      | some (some h) => okB (sRanged E.P (pc, sl, .inl (.inl l) :: .inl (.inl i) :: .inr (some k) :: st, me, iv, li, nx, mm) l (-128) 127) (sWr E h.1 (pc + 1) st (b + h.2.1) (b + h.2.2) l)
      | some none => some []
      | none => none
    | some (.inr (.inl (2, b, m))) => match sIx E (pc, sl, .inl (.inl l) :: .inl (.inl i) :: .inr (some k) :: st, me, iv, li, nx, mm) i m with
      | some (some h) => okB (sRanged E.P (pc, sl, .inl (.inl l) :: .inl (.inl i) :: .inr (some k) :: st, me, iv, li, nx, mm) l 0 1) (sWr E h.1 (pc + 1) st (b + h.2.1) (b + h.2.2) l)
      | some none => some []
      | none => none
    | _ => none) = some L := e
  split at e1
  · rename_i b m c2
    have hl := hL.1 k _ _ _ c2
    have hk := hG.1 k _ c2
    split at e1
    · rename_i y c3
      obtain ⟨T, u, w, k1, k2, k3, k4, k5, k6, k7, k8, k9, k10, k11⟩ := sIx_all c3 hl.1 h2 ha
      cases k1
      obtain ⟨c5, e1⟩ := okB_ok e1
      have q1 := sRanged_ok (hS r (sAg.rf _ _)).1.2.2.1.1 (hS r (sAg.rf _ _)).1.2.2.1.2.2 c5
      rw [← hz r (sAg.rf _ _)] at q1
      have ev : (vp_nar .byte z).toInt = z.toInt := by rw [vp_nar_byte]; exact (cv_i2b z).2 q1.1 q1.2
      have fin := W_wr hG hF e1 (p := b + a.toInt.toNat) (Nat.add_le_add_left k9 b) (Nat.add_le_add_left k10 b) hW (by rw [k2]; exact hn) hr k4 (v := z.toInt) (fun r' q => hz r' (by rw [k2] at q; exact q))
      exact g_bastore h hG.2.1 hk k6 hd (by rw [ev]; exact fin)
    · rename_i c3
      obtain ⟨T, u, w, k1, -⟩ := sIx_all c3 hl.1 h2 ha
      cases k1
    · cases e1
  · rename_i b m c2
    have hl := hL.1 k _ _ _ c2
    have hk := hG.1 k _ c2
    split at e1
    · rename_i y c3
      obtain ⟨T, u, w, k1, k2, k3, k4, k5, k6, k7, k8, k9, k10, k11⟩ := sIx_all c3 hl.1 h2 ha
      cases k1
      obtain ⟨c5, e1⟩ := okB_ok e1
      have q1 := sRanged_ok (hS r (sAg.rf _ _)).1.2.2.1.1 (hS r (sAg.rf _ _)).1.2.2.1.2.2 c5
      rw [← hz r (sAg.rf _ _)] at q1
      have ev : (vp_nar .boolean z).toInt = z.toInt := by rcases x32_01 q1.1 q1.2 with rfl | rfl <;> rfl
      have fin := W_wr hG hF e1 (p := b + a.toInt.toNat) (Nat.add_le_add_left k9 b) (Nat.add_le_add_left k10 b) hW (by rw [k2]; exact hn) hr k4 (v := z.toInt) (fun r' q => hz r' (by rw [k2] at q; exact q))
      exact g_zastore h hG.2.1 hk k6 hd (by rw [ev]; exact fin)
    · rename_i c3
      obtain ⟨T, u, w, k1, -⟩ := sIx_all c3 hl.1 h2 ha
      cases k1
    · cases e1
  · cases e1
theorem e_lastore (h : gOK X) (hG : sEnvG X E) (hF : sEnvF E F) (hL : sEnvL E) (hd : decode (gXy X) S.pc = .ok (.lastore, 1)) (e : sStep1 E code S .lastore 1 = some L) (hW : ∀ T ∈ L, sW X E.P F n0 r0 T) : sW X E.P F n0 r0 S := by
  intro r lv sv mu hn hr hS
  obtain ⟨pc, sl, st, me, iv, li, nx, mm⟩ := S
  rcases st with _ | ⟨(l | l) | l, _ | ⟨(i | i) | i, _ | ⟨(x | x) | (_ | k), st⟩⟩⟩
  all_goals try (cases e; done)
  obtain ⟨z, sv, rfl, h0, hz⟩ := popL hS
  obtain ⟨a, sv, rfl, h1, ha⟩ := popI h0
  obtain ⟨sv, rfl, h2⟩ := popR h1
  have e1 : (match gAt E.G k with
    | some (.inr (.inl (3, b, m))) => match sIx E (pc, sl, .inl (.inr l) :: .inl (.inl i) :: .inr (some k) :: st, me, iv, li, nx, mm) i m with
      | some (some h) => sWr E h.1 (pc + 1) st (b + h.2.1) (b + h.2.2) l
      | some none => some []
      | none => none
    | _ => none) = some L := e
  split at e1
  · rename_i b m c2
    have hl := hL.1 k _ _ _ c2
    have hk := hG.1 k _ c2
    split at e1
    · rename_i y c3
      obtain ⟨T, u, w, k1, k2, k3, k4, k5, k6, k7, k8, k9, k10, k11⟩ := sIx_all c3 hl.1 h2 ha
      cases k1
      have fin := W_wr hG hF e1 (p := b + a.toInt.toNat) (Nat.add_le_add_left k9 b) (Nat.add_le_add_left k10 b) hW (by rw [k2]; exact hn) hr k4 (v := z.toInt) (fun r' q => hz r' (by rw [k2] at q; exact q))
      exact g_lastore h hG.2.1 hk k6 hd fin
    · rename_i c3
      obtain ⟨T, u, w, k1, -⟩ := sIx_all c3 hl.1 h2 ha
      cases k1
    · cases e1
  · cases e1
theorem e_arraylength (h : gOK X) (hG : sEnvG X E) (hd : decode (gXy X) S.pc = .ok (.arraylength, 1)) (e : sStep1 E code S .arraylength 1 = some L) (hW : ∀ T ∈ L, sW X E.P F n0 r0 T) : sW X E.P F n0 r0 S := by
  intro r lv sv mu hn hr hS
  obtain ⟨pc, sl, st, me, iv, li, nx, mm⟩ := S
  rcases st with _ | ⟨(x | x) | (_ | k), st⟩
  all_goals try (cases e; done)
  obtain ⟨sv, rfl, h1⟩ := popR hS
  have e1 : (match gAt E.G k with
    | some g => match glen g with
      | some m => okB (Nat.blt (gkind g) 7 && Nat.blt m 2147483648) (one (sPush (pc, sl, .inr (some k) :: st, me, iv, li, nx, mm) (pc + 1) st (.inl (.inl (sK (m : Int))))))
      | none => none
    | none => none) = some L := e
  split at e1
  · rename_i g c2
    split at e1
    · rename_i m c3
      obtain ⟨c4, e2⟩ := okB_ok e1
      simp only [Bool.and_eq_true, Nat.blt_eq] at c4
      cases e2
      refine g_arraylength h (hG.1 k _ c2) c3 c4.1 hd (W_push (hW _ List.mem_cons_self) hn hr h1 (fun r' _ => ?_))
      show (Int32.ofNat m).toInt = sEv r' (sK (m : Int))
      rw [sEv_K]
      exact Int32.toInt_ofNat_of_lt (by omega)
    · cases e1
  · cases e1
theorem W_refs {T0 : sS} {P : sP} {x : sL} {r : Nat → Int} {lv : List (Nat × gV)} {sv : List gV} {mu : gM} (hn : n0 ≤ T0.nx) (hr : sAg n0 r0 r) (hS : ∀ r', sAg T0.nx r r' → sSatB P F r' T0 lv mu ∧ sRelS r' T0.st sv) {v : Int} (hv : ∀ r', sAg T0.nx r r' → v = sEv r' x) : ∀ (ids : List Nat) (k j : Nat) (o : Nat), (∀ T ∈ sRefs P T0 x k ids, sW X P F n0 r0 T) → ids[j]? = some o → v = ((k + j : Nat) : Int) → gG X T0.pc lv (gR o :: sv) mu
  | [], _, _, _, _, e, _ => by cases e
  | o0 :: t, k, 0, o, hW, e, q => by
    cases e
    have hz : ∀ r', sAg T0.nx r r' → sEv r' (sAdd x (sK (-(k : Int)))) = 0 := fun r' z => by
      rw [sEv_add, sEv_K, ← hv r' z]
      omega
    obtain ⟨T, e1, k1, q1⟩ := sEq_ok (hS r (sAg.rf _ _)).1.2.2.1 (hz r (sAg.rf _ _))
    have hT := hW (sPush T T.pc T.st (.inr (some o0))) (List.mem_append_left _ (by rw [e1]; exact List.mem_cons_self))
    have g := hT r lv (gR o0 :: sv) mu (by show n0 ≤ T.nx; rw [q1.2.2.2.2.1]; exact hn) hr (fun r' z => by
      have z2 : sAg T0.nx r r' := by rw [← q1.2.2.2.2.1]; exact z
      obtain ⟨T', e2, k2, q2⟩ := sEq_ok (hS r' z2).1.2.2.1 (hz r' z2)
      cases e1.symm.trans e2
      refine ⟨eqv_sat q1 (hS r' z2).1 k2, rfl, ?_⟩
      show sRelS r' T.st sv
      rw [q1.2.2.1]
      exact (hS r' z2).2)
    have g2 : gG X T.pc lv (gR o0 :: sv) mu := g
    rw [q1.1] at g2
    exact g2
  | o0 :: t, k, j + 1, o, hW, e, q => W_refs hn hr hS hv t (k + 1) j o (fun T hT => hW T (List.mem_append_right _ hT)) (by rw [List.getElem?_cons_succ] at e; exact e) (by rw [q]; congr 1; omega)
theorem e_aaload (h : gOK X) (hG : sEnvG X E) (hL : sEnvL E) (hd : decode (gXy X) S.pc = .ok (.aaload, 1)) (e : sStep1 E code S .aaload 1 = some L) (hW : ∀ T ∈ L, sW X E.P F n0 r0 T) : sW X E.P F n0 r0 S := by
  intro r lv sv mu hn hr hS
  obtain ⟨pc, sl, st, me, iv, li, nx, mm⟩ := S
  rcases st with _ | ⟨(i | i) | i, _ | ⟨(x | x) | (_ | k), st⟩⟩
  all_goals try (cases e; done)
  obtain ⟨a, sv, rfl, h1, ha⟩ := popI hS
  obtain ⟨sv, rfl, h2⟩ := popR h1
  have e1 : (match gAt E.G k with
    | some (.inr (.inr (t, ids))) => match sIx E (pc, sl, .inl (.inl i) :: .inr (some k) :: st, me, iv, li, nx, mm) i ids.length with
      | some (some h) => okB (Nat.beq t 4 || (Nat.beq t 5 || Nat.beq t 6)) (some (sRefs E.P (sGo h.1 (pc + 1) st) i 0 ids))
      | some none => some []
      | none => none
    | _ => none) = some L := e
  split at e1
  · rename_i t ids c2
    have hl := hL.2 k _ _ c2
    have hk := hG.1 k _ c2
    split at e1
    · rename_i y c3
      obtain ⟨T, u, w, k1, k2, k3, k4, k5, k6, k7, k8, k9, k10, k11⟩ := sIx_all c3 hl h2 ha
      cases k1
      obtain ⟨c5, e2⟩ := okB_ok e1
      simp only [Bool.or_eq_true, Nat.beq_eq] at c5
      cases e2
      have hlt : a.toInt.toNat < ids.length := by omega
      have ho : ids[a.toNatClampNeg]? = some ids[a.toInt.toNat] := List.getElem?_eq_getElem hlt
      refine g_aaload h hk c5 k6 ho hd ?_
      have g := W_refs (T0 := sGo T (pc + 1) st) (v := a.toInt) (by show n0 ≤ T.nx; rw [k2]; exact hn) hr k4 k5 ids 0 a.toInt.toNat _ hW (List.getElem?_eq_getElem hlt) (by omega)
      exact g
    · rename_i c3
      obtain ⟨T, u, w, k1, -⟩ := sIx_all c3 hl h2 ha
      cases k1
    · cases e1
  · cases e1
end STEPD
