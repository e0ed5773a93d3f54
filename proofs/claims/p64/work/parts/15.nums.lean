/-! THE ENGINE IS SOUND, instruction by instruction: numbers -/
theorem i32_rg {n : Int} (h1 : i32l ≤ n) (h2 : n ≤ i32h) : -2 ^ 31 ≤ n ∧ n < 2 ^ 31 := by
  unfold i32l at h1
  unfold i32h at h2
  omega
theorem i64_rg {n : Int} (h1 : i64l ≤ n) (h2 : n ≤ i64h) : -2 ^ 63 ≤ n ∧ n < 2 ^ 63 := by
  unfold i64l at h1
  unfold i64h at h2
  omega
theorem bmod64 {n : Int} (h1 : -2 ^ 63 ≤ n) (h2 : n < 2 ^ 63) : n.bmod (2 ^ 64) = n := Int.bmod_eq_of_le (by omega) (by omega)
theorem x32_nz {y : Int32} (h : 0 < y.toInt) : ¬ y = 0 := by
  intro q
  subst q
  rw [Int32.toInt_zero] at h
  omega
theorem x64_nz {y : Int64} (h : 0 < y.toInt) : ¬ y = 0 := by
  intro q
  subst q
  rw [Int64.toInt_zero] at h
  omega
theorem x64_div {x y : Int64} (hy : 0 < y.toInt) : (x / y).toInt = x.toInt.tdiv y.toInt := by
  rw [Int64.toInt_div]
  have r1 := i64_range x
  unfold i64l i64h at r1
  have d := tdiv_abs (a := x.toInt) hy
  have b : ∀ t : Int, 0 ≤ t → t ≤ t * y.toInt := fun t ht => by
    have := Int.mul_le_mul_of_nonneg_left (show 1 ≤ y.toInt by omega) ht
    omega
  rcases Int.le_total 0 x.toInt with h | h
  · have h1 := d.1 h
    have h2 : 0 ≤ x.toInt.tdiv y.toInt := Int.tdiv_nonneg h (by omega)
    have h3 := b _ h2
    exact bmod64 (by omega) (by omega)
  · have h1 := d.2 h
    have h2 : x.toInt.tdiv y.toInt ≤ 0 := tdiv_nonpos' h hy
    have h3 := b (-(x.toInt.tdiv y.toInt)) (by omega)
    rw [Int.neg_mul] at h3
    exact bmod64 (by omega) (by omega)
theorem x64_rem {x y : Int64} (hy : 0 < y.toInt) : (x - x / y * y).toInt = x.toInt.tmod y.toInt := by
  have r1 := i64_range x
  unfold i64l i64h at r1
  have e := Int.tmod_def x.toInt y.toInt
  rw [Int.mul_comm] at e
  have d := tdiv_abs (a := x.toInt) hy
  have m : (x / y * y).toInt = x.toInt.tdiv y.toInt * y.toInt := by
    rw [Int64.toInt_mul, x64_div hy]
    rcases Int.le_total 0 x.toInt with h | h
    · have := d.1 h; exact bmod64 (by omega) (by omega)
    · have := d.2 h; exact bmod64 (by omega) (by omega)
  rw [Int64.toInt_sub, m, e]
  rcases Int.le_total 0 x.toInt with h | h
  · have := d.1 h; exact bmod64 (by omega) (by omega)
  · have := d.2 h; exact bmod64 (by omega) (by omega)
theorem cv_l2i (a : Int64) : (i32l ≤ a.toInt32.toInt ∧ a.toInt32.toInt ≤ i32h) ∧ (i32l ≤ a.toInt → a.toInt ≤ i32h → a.toInt32.toInt = a.toInt) :=
  ⟨i32_range _, fun h1 h2 => _root_.Jvm.Kit.i32_of_i64 (i32_rg h1 h2).1 (i32_rg h1 h2).2⟩
theorem cv_i2b (a : Int32) : (-128 ≤ a.toInt8.toInt32.toInt ∧ a.toInt8.toInt32.toInt ≤ 127) ∧ (-128 ≤ a.toInt → a.toInt ≤ 127 → a.toInt8.toInt32.toInt = a.toInt) := by
  rw [Int8.toInt_toInt32]
  have h1 := Int8.le_toInt a.toInt8
  have h2 := Int8.toInt_lt a.toInt8
  refine ⟨⟨by omega, by omega⟩, fun h3 h4 => ?_⟩
  rw [Int32.toInt_toInt8]
  exact Int.bmod_eq_of_le (by omega) (by omega)
theorem cv_i2s (a : Int32) : (-32768 ≤ a.toInt16.toInt32.toInt ∧ a.toInt16.toInt32.toInt ≤ 32767) ∧ (-32768 ≤ a.toInt → a.toInt ≤ 32767 → a.toInt16.toInt32.toInt = a.toInt) := by
  rw [Int16.toInt_toInt32]
  have h1 := Int16.le_toInt a.toInt16
  have h2 := Int16.toInt_lt a.toInt16
  refine ⟨⟨by omega, by omega⟩, fun h3 h4 => ?_⟩
  rw [Int32.toInt_toInt16]
  exact Int.bmod_eq_of_le (by omega) (by omega)
section STEPB
variable {X : gX} {E : sE} {F : Nat → Int → gM → Int} {n0 : Nat} {r0 : Nat → Int} {code : sCode} {S : sS} {L : List sS}
theorem e_iadd (h : gOK X) (hd : decode (gXy X) S.pc = .ok (.iadd, 1)) (e : sStep1 E code S .iadd 1 = some L) (hW : ∀ T ∈ L, sW X E.P F n0 r0 T) : sW X E.P F n0 r0 S := by
  intro r lv sv mu hn hr hS
  obtain ⟨pc, sl, st, me, iv, li, nx, mm⟩ := S
  rcases st with _ | ⟨(y | y) | y, _ | ⟨(x | x) | x, st⟩⟩
  all_goals try (cases e; done)
  obtain ⟨b, sv, rfl, h1, hb⟩ := popI hS
  obtain ⟨a, sv, rfl, h2, ha⟩ := popI h1
  have e1 : one (sPutI E.P (pc, sl, .inl (.inl y) :: .inl (.inl x) :: st, me, iv, li, nx, mm) (pc + 1) st (sAdd x y)) = some L := e
  cases e1
  refine g_iadd h hd (W_putI (hW _ List.mem_cons_self) hn hr h2 (fun r' q q1 q2 => ?_))
  rw [sEv_add, ← ha r' q, ← hb r' q] at q1 q2 ⊢
  have := i32_rg q1 q2
  exact _root_.Jvm.Kit.i32_add this.1 this.2
theorem e_isub (h : gOK X) (hd : decode (gXy X) S.pc = .ok (.isub, 1)) (e : sStep1 E code S .isub 1 = some L) (hW : ∀ T ∈ L, sW X E.P F n0 r0 T) : sW X E.P F n0 r0 S := by
  intro r lv sv mu hn hr hS
  obtain ⟨pc, sl, st, me, iv, li, nx, mm⟩ := S
  rcases st with _ | ⟨(y | y) | y, _ | ⟨(x | x) | x, st⟩⟩
  all_goals try (cases e; done)
  obtain ⟨b, sv, rfl, h1, hb⟩ := popI hS
  obtain ⟨a, sv, rfl, h2, ha⟩ := popI h1
  have e1 : one (sPutI E.P (pc, sl, .inl (.inl y) :: .inl (.inl x) :: st, me, iv, li, nx, mm) (pc + 1) st (sSub x y)) = some L := e
  cases e1
  refine g_isub h hd (W_putI (hW _ List.mem_cons_self) hn hr h2 (fun r' q q1 q2 => ?_))
  rw [sEv_sub, ← ha r' q, ← hb r' q] at q1 q2 ⊢
  have := i32_rg q1 q2
  exact _root_.Jvm.Kit.i32_sub this.1 this.2
theorem e_ladd (h : gOK X) (hd : decode (gXy X) S.pc = .ok (.ladd, 1)) (e : sStep1 E code S .ladd 1 = some L) (hW : ∀ T ∈ L, sW X E.P F n0 r0 T) : sW X E.P F n0 r0 S := by
  intro r lv sv mu hn hr hS
  obtain ⟨pc, sl, st, me, iv, li, nx, mm⟩ := S
  rcases st with _ | ⟨(y | y) | y, _ | ⟨(x | x) | x, st⟩⟩
  all_goals try (cases e; done)
  obtain ⟨b, sv, rfl, h1, hb⟩ := popL hS
  obtain ⟨a, sv, rfl, h2, ha⟩ := popL h1
  have e1 : one (sPutL E.P (pc, sl, .inl (.inr y) :: .inl (.inr x) :: st, me, iv, li, nx, mm) (pc + 1) st (sAdd x y)) = some L := e
  cases e1
  refine g_ladd h hd (W_putL (hW _ List.mem_cons_self) hn hr h2 (fun r' q q1 q2 => ?_))
  rw [sEv_add, ← ha r' q, ← hb r' q] at q1 q2 ⊢
  have := i64_rg q1 q2
  rw [Int64.toInt_add, bmod64 this.1 this.2]
theorem e_imul (h : gOK X) (hd : decode (gXy X) S.pc = .ok (.imul, 1)) (e : sStep1 E code S .imul 1 = some L) (hW : ∀ T ∈ L, sW X E.P F n0 r0 T) : sW X E.P F n0 r0 S := by
  intro r lv sv mu hn hr hS
  obtain ⟨pc, sl, st, me, iv, li, nx, mm⟩ := S
  rcases st with _ | ⟨(y | y) | y, _ | ⟨(x | x) | x, st⟩⟩
  all_goals try (cases e; done)
  obtain ⟨b, sv, rfl, h1, hb⟩ := popI hS
  obtain ⟨a, sv, rfl, h2, ha⟩ := popI h1
  have e1 : (match isK x, isK y with
    | some a, _ => one (sPutI E.P (pc, sl, .inl (.inl y) :: .inl (.inl x) :: st, me, iv, li, nx, mm) (pc + 1) st (sMul a y))
    | none, some b => one (sPutI E.P (pc, sl, .inl (.inl y) :: .inl (.inl x) :: st, me, iv, li, nx, mm) (pc + 1) st (sMul b x))
    | none, none => sResI (pc, sl, .inl (.inl y) :: .inl (.inl x) :: st, me, iv, li, nx, mm) (pc + 1) st (sArI E.P (pc, sl, .inl (.inl y) :: .inl (.inl x) :: st, me, iv, li, nx, mm) .imul x y)) = some L := e
  cases cx : isK x with
  | some c =>
    rw [cx] at e1
    cases e1
    refine g_imul h hd (W_putI (hW _ List.mem_cons_self) hn hr h2 (fun r' q q1 q2 => ?_))
    rw [sEv_mul, ← isK_ok (r := r') cx, ← ha r' q, ← hb r' q] at q1 q2 ⊢
    have := i32_rg q1 q2
    exact _root_.Jvm.Kit.i32_mul this.1 this.2
  | none =>
    cases cy : isK y with
    | some c =>
      rw [cx, cy] at e1
      cases e1
      refine g_imul h hd (W_putI (hW _ List.mem_cons_self) hn hr h2 (fun r' q q1 q2 => ?_))
      rw [sEv_mul, ← isK_ok (r := r') cy, ← ha r' q, ← hb r' q, Int.mul_comm] at q1 q2 ⊢
      have := i32_rg q1 q2
      exact _root_.Jvm.Kit.i32_mul this.1 this.2
    | none =>
      rw [cx, cy] at e1
      cases e1
      have q3 := sArI_ok (hS r (sAg.rf _ _)).1.2.2.1 (ha r (sAg.rf _ _)) (hb r (sAg.rf _ _)) .imul
      exact g_imul h hd (W_anyI (hW _ List.mem_cons_self) hn hr h2 q3.1 q3.2)
theorem e_lmul (h : gOK X) (hd : decode (gXy X) S.pc = .ok (.lmul, 1)) (e : sStep1 E code S .lmul 1 = some L) (hW : ∀ T ∈ L, sW X E.P F n0 r0 T) : sW X E.P F n0 r0 S := by
  intro r lv sv mu hn hr hS
  obtain ⟨pc, sl, st, me, iv, li, nx, mm⟩ := S
  rcases st with _ | ⟨(y | y) | y, _ | ⟨(x | x) | x, st⟩⟩
  all_goals try (cases e; done)
  obtain ⟨b, sv, rfl, h1, hb⟩ := popL hS
  obtain ⟨a, sv, rfl, h2, ha⟩ := popL h1
  have e1 : (match isK x, isK y with
    | some a, _ => one (sPutL E.P (pc, sl, .inl (.inr y) :: .inl (.inr x) :: st, me, iv, li, nx, mm) (pc + 1) st (sMul a y))
    | none, some b => one (sPutL E.P (pc, sl, .inl (.inr y) :: .inl (.inr x) :: st, me, iv, li, nx, mm) (pc + 1) st (sMul b x))
    | none, none => one (sAnyL (pc, sl, .inl (.inr y) :: .inl (.inr x) :: st, me, iv, li, nx, mm) (pc + 1) st i64l i64h)) = some L := e
  cases cx : isK x with
  | some c =>
    rw [cx] at e1
    cases e1
    refine g_lmul h hd (W_putL (hW _ List.mem_cons_self) hn hr h2 (fun r' q q1 q2 => ?_))
    rw [sEv_mul, ← isK_ok (r := r') cx, ← ha r' q, ← hb r' q] at q1 q2 ⊢
    have := i64_rg q1 q2
    rw [Int64.toInt_mul, bmod64 this.1 this.2]
  | none =>
    cases cy : isK y with
    | some c =>
      rw [cx, cy] at e1
      cases e1
      refine g_lmul h hd (W_putL (hW _ List.mem_cons_self) hn hr h2 (fun r' q q1 q2 => ?_))
      rw [sEv_mul, ← isK_ok (r := r') cy, ← ha r' q, ← hb r' q, Int.mul_comm] at q1 q2 ⊢
      have := i64_rg q1 q2
      rw [Int64.toInt_mul, bmod64 this.1 this.2]
    | none =>
      rw [cx, cy] at e1
      cases e1
      have q3 := i64_range (a * b)
      exact g_lmul h hd (W_anyL (hW _ List.mem_cons_self) hn hr h2 q3.1 q3.2)
theorem e_ineg (h : gOK X) (hd : decode (gXy X) S.pc = .ok (.ineg, 1)) (e : sStep1 E code S .ineg 1 = some L) (hW : ∀ T ∈ L, sW X E.P F n0 r0 T) : sW X E.P F n0 r0 S := by
  intro r lv sv mu hn hr hS
  obtain ⟨pc, sl, st, me, iv, li, nx, mm⟩ := S
  rcases st with _ | ⟨(x | x) | x, st⟩
  all_goals try (cases e; done)
  obtain ⟨a, sv, rfl, h2, ha⟩ := popI hS
  have e1 : one (sPutI E.P (pc, sl, .inl (.inl x) :: st, me, iv, li, nx, mm) (pc + 1) st (sMul (-1) x)) = some L := e
  cases e1
  refine g_ineg h hd (W_putI (hW _ List.mem_cons_self) hn hr h2 (fun r' q q1 q2 => ?_))
  rw [sEv_mul, ← ha r' q] at q1 q2 ⊢
  have := i32_rg q1 q2
  rw [_root_.Jvm.Kit.i32_neg (by omega)]
  omega
theorem e_iand (h : gOK X) (hd : decode (gXy X) S.pc = .ok (.iand, 1)) (e : sStep1 E code S .iand 1 = some L) (hW : ∀ T ∈ L, sW X E.P F n0 r0 T) : sW X E.P F n0 r0 S := by
  intro r lv sv mu hn hr hS
  obtain ⟨pc, sl, st, me, iv, li, nx, mm⟩ := S
  rcases st with _ | ⟨(y | y) | y, _ | ⟨(x | x) | x, st⟩⟩
  all_goals try (cases e; done)
  obtain ⟨b, sv, rfl, h1, hb⟩ := popI hS
  obtain ⟨a, sv, rfl, h2, ha⟩ := popI h1
  have e1 : sResI (pc, sl, .inl (.inl y) :: .inl (.inl x) :: st, me, iv, li, nx, mm) (pc + 1) st (sArI E.P (pc, sl, .inl (.inl y) :: .inl (.inl x) :: st, me, iv, li, nx, mm) .iand x y) = some L := e
  cases e1
  have q3 := sArI_ok (hS r (sAg.rf _ _)).1.2.2.1 (ha r (sAg.rf _ _)) (hb r (sAg.rf _ _)) .iand
  exact g_iand h hd (W_anyI (hW _ List.mem_cons_self) hn hr h2 q3.1 q3.2)
theorem e_ior (h : gOK X) (hd : decode (gXy X) S.pc = .ok (.ior, 1)) (e : sStep1 E code S .ior 1 = some L) (hW : ∀ T ∈ L, sW X E.P F n0 r0 T) : sW X E.P F n0 r0 S := by
  intro r lv sv mu hn hr hS
  obtain ⟨pc, sl, st, me, iv, li, nx, mm⟩ := S
  rcases st with _ | ⟨(y | y) | y, _ | ⟨(x | x) | x, st⟩⟩
  all_goals try (cases e; done)
  obtain ⟨b, sv, rfl, h1, hb⟩ := popI hS
  obtain ⟨a, sv, rfl, h2, ha⟩ := popI h1
  have e1 : sResI (pc, sl, .inl (.inl y) :: .inl (.inl x) :: st, me, iv, li, nx, mm) (pc + 1) st (sArI E.P (pc, sl, .inl (.inl y) :: .inl (.inl x) :: st, me, iv, li, nx, mm) .ior x y) = some L := e
  cases e1
  have q3 := sArI_ok (hS r (sAg.rf _ _)).1.2.2.1 (ha r (sAg.rf _ _)) (hb r (sAg.rf _ _)) .ior
  exact g_ior h hd (W_anyI (hW _ List.mem_cons_self) hn hr h2 q3.1 q3.2)
theorem e_ixor (h : gOK X) (hd : decode (gXy X) S.pc = .ok (.ixor, 1)) (e : sStep1 E code S .ixor 1 = some L) (hW : ∀ T ∈ L, sW X E.P F n0 r0 T) : sW X E.P F n0 r0 S := by
  intro r lv sv mu hn hr hS
  obtain ⟨pc, sl, st, me, iv, li, nx, mm⟩ := S
  rcases st with _ | ⟨(y | y) | y, _ | ⟨(x | x) | x, st⟩⟩
  all_goals try (cases e; done)
  obtain ⟨b, sv, rfl, h1, hb⟩ := popI hS
  obtain ⟨a, sv, rfl, h2, ha⟩ := popI h1
  have e1 : sResI (pc, sl, .inl (.inl y) :: .inl (.inl x) :: st, me, iv, li, nx, mm) (pc + 1) st (sArI E.P (pc, sl, .inl (.inl y) :: .inl (.inl x) :: st, me, iv, li, nx, mm) .ixor x y) = some L := e
  cases e1
  have q3 := sArI_ok (hS r (sAg.rf _ _)).1.2.2.1 (ha r (sAg.rf _ _)) (hb r (sAg.rf _ _)) .ixor
  exact g_ixor h hd (W_anyI (hW _ List.mem_cons_self) hn hr h2 q3.1 q3.2)
theorem e_ishl (h : gOK X) (hd : decode (gXy X) S.pc = .ok (.ishl, 1)) (e : sStep1 E code S .ishl 1 = some L) (hW : ∀ T ∈ L, sW X E.P F n0 r0 T) : sW X E.P F n0 r0 S := by
  intro r lv sv mu hn hr hS
  obtain ⟨pc, sl, st, me, iv, li, nx, mm⟩ := S
  rcases st with _ | ⟨(y | y) | y, _ | ⟨(x | x) | x, st⟩⟩
  all_goals try (cases e; done)
  obtain ⟨b, sv, rfl, h1, hb⟩ := popI hS
  obtain ⟨a, sv, rfl, h2, ha⟩ := popI h1
  have e1 : sResI (pc, sl, .inl (.inl y) :: .inl (.inl x) :: st, me, iv, li, nx, mm) (pc + 1) st (sArI E.P (pc, sl, .inl (.inl y) :: .inl (.inl x) :: st, me, iv, li, nx, mm) .ishl x y) = some L := e
  cases e1
  have q3 := sArI_ok (hS r (sAg.rf _ _)).1.2.2.1 (ha r (sAg.rf _ _)) (hb r (sAg.rf _ _)) .ishl
  exact g_ishl h hd (W_anyI (hW _ List.mem_cons_self) hn hr h2 q3.1 q3.2)
theorem e_ishr (h : gOK X) (hd : decode (gXy X) S.pc = .ok (.ishr, 1)) (e : sStep1 E code S .ishr 1 = some L) (hW : ∀ T ∈ L, sW X E.P F n0 r0 T) : sW X E.P F n0 r0 S := by
  intro r lv sv mu hn hr hS
  obtain ⟨pc, sl, st, me, iv, li, nx, mm⟩ := S
  rcases st with _ | ⟨(y | y) | y, _ | ⟨(x | x) | x, st⟩⟩
  all_goals try (cases e; done)
  obtain ⟨b, sv, rfl, h1, hb⟩ := popI hS
  obtain ⟨a, sv, rfl, h2, ha⟩ := popI h1
  have e1 : sResI (pc, sl, .inl (.inl y) :: .inl (.inl x) :: st, me, iv, li, nx, mm) (pc + 1) st (sArI E.P (pc, sl, .inl (.inl y) :: .inl (.inl x) :: st, me, iv, li, nx, mm) .ishr x y) = some L := e
  cases e1
  have q3 := sArI_ok (hS r (sAg.rf _ _)).1.2.2.1 (ha r (sAg.rf _ _)) (hb r (sAg.rf _ _)) .ishr
  exact g_ishr h hd (W_anyI (hW _ List.mem_cons_self) hn hr h2 q3.1 q3.2)
theorem e_iushr (h : gOK X) (hd : decode (gXy X) S.pc = .ok (.iushr, 1)) (e : sStep1 E code S .iushr 1 = some L) (hW : ∀ T ∈ L, sW X E.P F n0 r0 T) : sW X E.P F n0 r0 S := by
  intro r lv sv mu hn hr hS
  obtain ⟨pc, sl, st, me, iv, li, nx, mm⟩ := S
  rcases st with _ | ⟨(y | y) | y, _ | ⟨(x | x) | x, st⟩⟩
  all_goals try (cases e; done)
  obtain ⟨b, sv, rfl, h1, hb⟩ := popI hS
  obtain ⟨a, sv, rfl, h2, ha⟩ := popI h1
  have e1 : sResI (pc, sl, .inl (.inl y) :: .inl (.inl x) :: st, me, iv, li, nx, mm) (pc + 1) st (sArI E.P (pc, sl, .inl (.inl y) :: .inl (.inl x) :: st, me, iv, li, nx, mm) .iushr x y) = some L := e
  cases e1
  have q3 := sArI_ok (hS r (sAg.rf _ _)).1.2.2.1 (ha r (sAg.rf _ _)) (hb r (sAg.rf _ _)) .iushr
  exact g_iushr h hd (W_anyI (hW _ List.mem_cons_self) hn hr h2 q3.1 q3.2)
theorem e_land (h : gOK X) (hd : decode (gXy X) S.pc = .ok (.land, 1)) (e : sStep1 E code S .land 1 = some L) (hW : ∀ T ∈ L, sW X E.P F n0 r0 T) : sW X E.P F n0 r0 S := by
  intro r lv sv mu hn hr hS
  obtain ⟨pc, sl, st, me, iv, li, nx, mm⟩ := S
  rcases st with _ | ⟨(y | y) | y, _ | ⟨(x | x) | x, st⟩⟩
  all_goals try (cases e; done)
  obtain ⟨b, sv, rfl, h1, hb⟩ := popL hS
  obtain ⟨a, sv, rfl, h2, ha⟩ := popL h1
  have e1 : one (sAnyL (pc, sl, .inl (.inr y) :: .inl (.inr x) :: st, me, iv, li, nx, mm) (pc + 1) st i64l i64h) = some L := e
  cases e1
  exact g_land h hd (W_anyL (hW _ List.mem_cons_self) hn hr h2 (i64_range _).1 (i64_range _).2)
theorem e_lor (h : gOK X) (hd : decode (gXy X) S.pc = .ok (.lor, 1)) (e : sStep1 E code S .lor 1 = some L) (hW : ∀ T ∈ L, sW X E.P F n0 r0 T) : sW X E.P F n0 r0 S := by
  intro r lv sv mu hn hr hS
  obtain ⟨pc, sl, st, me, iv, li, nx, mm⟩ := S
  rcases st with _ | ⟨(y | y) | y, _ | ⟨(x | x) | x, st⟩⟩
  all_goals try (cases e; done)
  obtain ⟨b, sv, rfl, h1, hb⟩ := popL hS
  obtain ⟨a, sv, rfl, h2, ha⟩ := popL h1
  have e1 : one (sAnyL (pc, sl, .inl (.inr y) :: .inl (.inr x) :: st, me, iv, li, nx, mm) (pc + 1) st i64l i64h) = some L := e
  cases e1
  exact g_lor h hd (W_anyL (hW _ List.mem_cons_self) hn hr h2 (i64_range _).1 (i64_range _).2)
theorem e_lshl (h : gOK X) (hd : decode (gXy X) S.pc = .ok (.lshl, 1)) (e : sStep1 E code S .lshl 1 = some L) (hW : ∀ T ∈ L, sW X E.P F n0 r0 T) : sW X E.P F n0 r0 S := by
  intro r lv sv mu hn hr hS
  obtain ⟨pc, sl, st, me, iv, li, nx, mm⟩ := S
  rcases st with _ | ⟨(y | y) | y, _ | ⟨(x | x) | x, st⟩⟩
  all_goals try (cases e; done)
  obtain ⟨b, sv, rfl, h1, hb⟩ := popI hS
  obtain ⟨a, sv, rfl, h2, ha⟩ := popL h1
  have e1 : one (sAnyL (pc, sl, .inl (.inl y) :: .inl (.inr x) :: st, me, iv, li, nx, mm) (pc + 1) st i64l i64h) = some L := e
  cases e1
  exact g_lshl h hd (W_anyL (hW _ List.mem_cons_self) hn hr h2 (i64_range _).1 (i64_range _).2)
theorem e_lshr (h : gOK X) (hd : decode (gXy X) S.pc = .ok (.lshr, 1)) (e : sStep1 E code S .lshr 1 = some L) (hW : ∀ T ∈ L, sW X E.P F n0 r0 T) : sW X E.P F n0 r0 S := by
  intro r lv sv mu hn hr hS
  obtain ⟨pc, sl, st, me, iv, li, nx, mm⟩ := S
  rcases st with _ | ⟨(y | y) | y, _ | ⟨(x | x) | x, st⟩⟩
  all_goals try (cases e; done)
  obtain ⟨b, sv, rfl, h1, hb⟩ := popI hS
  obtain ⟨a, sv, rfl, h2, ha⟩ := popL h1
  have e1 : one (sAnyL (pc, sl, .inl (.inl y) :: .inl (.inr x) :: st, me, iv, li, nx, mm) (pc + 1) st i64l i64h) = some L := e
  cases e1
  exact g_lshr h hd (W_anyL (hW _ List.mem_cons_self) hn hr h2 (i64_range _).1 (i64_range _).2)
theorem e_irem (h : gOK X) (hd : decode (gXy X) S.pc = .ok (.irem, 1)) (e : sStep1 E code S .irem 1 = some L) (hW : ∀ T ∈ L, sW X E.P F n0 r0 T) : sW X E.P F n0 r0 S := by
  intro r lv sv mu hn hr hS
  obtain ⟨pc, sl, st, me, iv, li, nx, mm⟩ := S
  rcases st with _ | ⟨(y | y) | y, _ | ⟨(x | x) | x, st⟩⟩
  all_goals try (cases e; done)
  obtain ⟨b, sv, rfl, h1, hb⟩ := popI hS
  obtain ⟨a, sv, rfl, h2, ha⟩ := popI h1
  have e1 : (match sRem E.P (pc, sl, .inl (.inl y) :: .inl (.inl x) :: st, me, iv, li, nx, mm) x y with
    | some h => one (sAnyI (pc, sl, .inl (.inl y) :: .inl (.inl x) :: st, me, iv, li, nx, mm) (pc + 1) st h.1 h.2)
    | none => none) = some L := e
  cases c : sRem E.P (pc, sl, .inl (.inl y) :: .inl (.inl x) :: st, me, iv, li, nx, mm) x y with
  | none => rw [c] at e1; cases e1
  | some z =>
    rw [c] at e1
    cases e1
    obtain ⟨q1, q2, q3⟩ := sRem_ok (hS r (sAg.rf _ _)).1.2.2.1 (ha r (sAg.rf _ _)) (hb r (sAg.rf _ _)) c
    refine g_irem h hd (x32_nz q1) (W_anyI (hW _ List.mem_cons_self) hn hr h2 ?_ ?_) <;> rw [x32_rem q1] <;> assumption
theorem e_lrem (h : gOK X) (hd : decode (gXy X) S.pc = .ok (.lrem, 1)) (e : sStep1 E code S .lrem 1 = some L) (hW : ∀ T ∈ L, sW X E.P F n0 r0 T) : sW X E.P F n0 r0 S := by
  intro r lv sv mu hn hr hS
  obtain ⟨pc, sl, st, me, iv, li, nx, mm⟩ := S
  rcases st with _ | ⟨(y | y) | y, _ | ⟨(x | x) | x, st⟩⟩
  all_goals try (cases e; done)
  obtain ⟨b, sv, rfl, h1, hb⟩ := popL hS
  obtain ⟨a, sv, rfl, h2, ha⟩ := popL h1
  have e1 : (match sRem E.P (pc, sl, .inl (.inr y) :: .inl (.inr x) :: st, me, iv, li, nx, mm) x y with
    | some h => one (sAnyL (pc, sl, .inl (.inr y) :: .inl (.inr x) :: st, me, iv, li, nx, mm) (pc + 1) st h.1 h.2)
    | none => none) = some L := e
  cases c : sRem E.P (pc, sl, .inl (.inr y) :: .inl (.inr x) :: st, me, iv, li, nx, mm) x y with
  | none => rw [c] at e1; cases e1
  | some z =>
    rw [c] at e1
    cases e1
    obtain ⟨q1, q2, q3⟩ := sRem_ok (hS r (sAg.rf _ _)).1.2.2.1 (ha r (sAg.rf _ _)) (hb r (sAg.rf _ _)) c
    refine g_lrem h hd (x64_nz q1) (W_anyL (hW _ List.mem_cons_self) hn hr h2 ?_ ?_) <;> rw [x64_rem q1] <;> assumption
theorem e_ldiv (h : gOK X) (hd : decode (gXy X) S.pc = .ok (.ldiv, 1)) (e : sStep1 E code S .ldiv 1 = some L) (hW : ∀ T ∈ L, sW X E.P F n0 r0 T) : sW X E.P F n0 r0 S := by
  intro r lv sv mu hn hr hS
  obtain ⟨pc, sl, st, me, iv, li, nx, mm⟩ := S
  rcases st with _ | ⟨(y | y) | y, _ | ⟨(x | x) | x, st⟩⟩
  all_goals try (cases e; done)
  obtain ⟨b, sv, rfl, h1, hb⟩ := popL hS
  obtain ⟨a, sv, rfl, h2, ha⟩ := popL h1
  have e1 : (match sDiv E.P (pc, sl, .inl (.inr y) :: .inl (.inr x) :: st, me, iv, li, nx, mm) x y with
    | some h => one (sAnyL (pc, sl, .inl (.inr y) :: .inl (.inr x) :: st, me, iv, li, nx, mm) (pc + 1) st h.1 h.2)
    | none => none) = some L := e
  cases c : sDiv E.P (pc, sl, .inl (.inr y) :: .inl (.inr x) :: st, me, iv, li, nx, mm) x y with
  | none => rw [c] at e1; cases e1
  | some z =>
    rw [c] at e1
    cases e1
    obtain ⟨q1, q2, q3⟩ := sDiv_ok (hS r (sAg.rf _ _)).1.2.2.1 (ha r (sAg.rf _ _)) (hb r (sAg.rf _ _)) c
    refine g_ldiv h hd (x64_nz q1) (W_anyL (hW _ List.mem_cons_self) hn hr h2 ?_ ?_) <;> rw [x64_div q1] <;> assumption
theorem e_i2l (h : gOK X) (hd : decode (gXy X) S.pc = .ok (.i2l, 1)) (e : sStep1 E code S .i2l 1 = some L) (hW : ∀ T ∈ L, sW X E.P F n0 r0 T) : sW X E.P F n0 r0 S := by
  intro r lv sv mu hn hr hS
  obtain ⟨pc, sl, st, me, iv, li, nx, mm⟩ := S
  rcases st with _ | ⟨(x | x) | x, st⟩
  all_goals try (cases e; done)
  obtain ⟨a, sv, rfl, h2, ha⟩ := popI hS
  have e1 : one (sPush (pc, sl, .inl (.inl x) :: st, me, iv, li, nx, mm) (pc + 1) st (.inl (.inr x))) = some L := e
  cases e1
  exact g_i2l h hd (W_push (hW _ List.mem_cons_self) hn hr h2 (fun r' q => by show a.toInt64.toInt = sEv r' x; rw [Int32.toInt_toInt64]; exact ha r' q))
theorem e_l2i (h : gOK X) (hd : decode (gXy X) S.pc = .ok (.l2i, 1)) (e : sStep1 E code S .l2i 1 = some L) (hW : ∀ T ∈ L, sW X E.P F n0 r0 T) : sW X E.P F n0 r0 S := by
  intro r lv sv mu hn hr hS
  obtain ⟨pc, sl, st, me, iv, li, nx, mm⟩ := S
  rcases st with _ | ⟨(x | x) | x, st⟩
  all_goals try (cases e; done)
  obtain ⟨a, sv, rfl, h2, ha⟩ := popL hS
  have e1 : (if sRanged E.P (pc, sl, .inl (.inr x) :: st, me, iv, li, nx, mm) x i32l i32h then one (sPush (pc, sl, .inl (.inr x) :: st, me, iv, li, nx, mm) (pc + 1) st (.inl (.inl x))) else one (sAnyI (pc, sl, .inl (.inr x) :: st, me, iv, li, nx, mm) (pc + 1) st i32l i32h)) = some L := e
  have z := cv_l2i a
  split at e1
  · rename_i c
    cases e1
    refine g_l2i h hd (W_push (hW _ List.mem_cons_self) hn hr h2 (fun r' q => ?_))
    have q1 := sRanged_ok (hS r' q).1.2.2.1.1 (hS r' q).1.2.2.1.2.2 c
    rw [← ha r' q] at q1
    show a.toInt32.toInt = sEv r' x
    rw [z.2 q1.1 q1.2]
    exact ha r' q
  · cases e1
    exact g_l2i h hd (W_anyI (hW _ List.mem_cons_self) hn hr h2 z.1.1 z.1.2)
theorem e_i2b (h : gOK X) (hd : decode (gXy X) S.pc = .ok (.i2b, 1)) (e : sStep1 E code S .i2b 1 = some L) (hW : ∀ T ∈ L, sW X E.P F n0 r0 T) : sW X E.P F n0 r0 S := by
  intro r lv sv mu hn hr hS
  obtain ⟨pc, sl, st, me, iv, li, nx, mm⟩ := S
  rcases st with _ | ⟨(x | x) | x, st⟩
  all_goals try (cases e; done)
  obtain ⟨a, sv, rfl, h2, ha⟩ := popI hS
  have e1 : (if sRanged E.P (pc, sl, .inl (.inl x) :: st, me, iv, li, nx, mm) x (-128) 127 then one (sPush (pc, sl, .inl (.inl x) :: st, me, iv, li, nx, mm) (pc + 1) st (.inl (.inl x))) else one (sAnyI (pc, sl, .inl (.inl x) :: st, me, iv, li, nx, mm) (pc + 1) st (-128) 127)) = some L := e
  have z := cv_i2b a
  split at e1
  · rename_i c
    cases e1
    refine g_i2b h hd (W_push (hW _ List.mem_cons_self) hn hr h2 (fun r' q => ?_))
    have q1 := sRanged_ok (hS r' q).1.2.2.1.1 (hS r' q).1.2.2.1.2.2 c
    rw [← ha r' q] at q1
    show a.toInt8.toInt32.toInt = sEv r' x
    rw [z.2 q1.1 q1.2]
    exact ha r' q
  · cases e1
    exact g_i2b h hd (W_anyI (hW _ List.mem_cons_self) hn hr h2 z.1.1 z.1.2)
theorem e_i2s (h : gOK X) (hd : decode (gXy X) S.pc = .ok (.i2s, 1)) (e : sStep1 E code S .i2s 1 = some L) (hW : ∀ T ∈ L, sW X E.P F n0 r0 T) : sW X E.P F n0 r0 S := by
  intro r lv sv mu hn hr hS
  obtain ⟨pc, sl, st, me, iv, li, nx, mm⟩ := S
  rcases st with _ | ⟨(x | x) | x, st⟩
  all_goals try (cases e; done)
  obtain ⟨a, sv, rfl, h2, ha⟩ := popI hS
  have e1 : (if sRanged E.P (pc, sl, .inl (.inl x) :: st, me, iv, li, nx, mm) x (-32768) 32767 then one (sPush (pc, sl, .inl (.inl x) :: st, me, iv, li, nx, mm) (pc + 1) st (.inl (.inl x))) else one (sAnyI (pc, sl, .inl (.inl x) :: st, me, iv, li, nx, mm) (pc + 1) st (-32768) 32767)) = some L := e
  have z := cv_i2s a
  split at e1
  · rename_i c
    cases e1
    refine g_i2s h hd (W_push (hW _ List.mem_cons_self) hn hr h2 (fun r' q => ?_))
    have q1 := sRanged_ok (hS r' q).1.2.2.1.1 (hS r' q).1.2.2.1.2.2 c
    rw [← ha r' q] at q1
    show a.toInt16.toInt32.toInt = sEv r' x
    rw [z.2 q1.1 q1.2]
    exact ha r' q
  · cases e1
    exact g_i2s h hd (W_anyI (hW _ List.mem_cons_self) hn hr h2 z.1.1 z.1.2)
end STEPB
