/-! THE LAW'S START: classes, arrays, strings -/
theorem start_K {s : State} {args : Array Value} (hts : ∀ w ∈ lw_tbl, w.before args s = true) : ∃ (dC : Nat → ClassId) (dI : Nat → Nat → Nat) (dA : Nat → ClassId), va_K (dC, dI) vwCl (gtys dA) s ∧ kE s := by
  have hTW : ∀ w ∈ TW, w.before args s = true := fun w hw => hts w (List.mem_filter.mp hw).1
  have h1 : ∀ ci : Nat, ∃ q : ClassId × (Nat → Nat), ∀ r : vw_C, vwCl[ci]? = some r → u_Kn s r.1 r.2.1 r.2.2 q.1 q.2 := by
    intro ci
    cases e : vwCl[ci]? with
    | none => exact ⟨(0, fun _ => 0), fun r hr => by cases hr⟩
    | some r =>
      obtain ⟨C, T, N⟩ := r
      have hc := gclAll ci C T N e
      have hi : (Cond.instantiable C N).before args s = true := by
        refine hts _ ?_
        have : ∀ ci, ci < 13 → (match vwCl[ci]? with | some r => decide (Cond.instantiable r.1 r.2.2 ∈ lw_tbl) | none => false) = true := by decide +kernel
        have hlt : ci < 13 := (List.getElem?_eq_some_iff.mp e).1
        have := this ci hlt
        rw [e] at this
        exact of_decide_eq_true this
      obtain ⟨cC, iS, hK⟩ := u_known (C := C) (T := T) (N := N) (n := N) hTW hc.2.1 hi
      exact ⟨(cC, iS), fun r hr => by cases hr; exact hK⟩
  obtain ⟨f, hf⟩ := Classical.axiomOfChoice h1
  have h2 : ∀ k : Nat, ∃ cA : ClassId, k < 7 → ArrOfT s cA (gty k) ∧ va_RA s cA (gty k) := by
    have prim : ∀ ty : FieldType, Cond.arrayClass ty ∈ TW → (∀ cA, s.vm.findClass ("[" ++ ty.toString) = some cA → va_RA s cA ty) → ∃ cA : ClassId, ArrOfT s cA ty ∧ va_RA s cA ty := fun ty hw hr => by
      obtain ⟨c, k, comp, g1, g2, g3⟩ := Cond.arrayClass_spec (args := args) (first := s) (o := none) (idx := []) (hTW _ hw)
      exact ⟨c, fun n z => ⟨fun k h => (by cases h), k, g2, comp, g3⟩, hr c g1⟩
    have obj : ∀ C : String, (Cond.arrayOver (.object C)).before args s = true → ∃ cA : ClassId, ArrOfT s cA (.object C) ∧ va_RA s cA (.object C) := fun C h => by
      obtain ⟨comp, c, k, g1, -, g3, g4, g5⟩ := Cond.arrayOver_spec h
      exact ⟨c, fun n z => ⟨fun k h => (by cases h), k, g3, comp, g4⟩, k, comp, g3, g4, g1, g5⟩
    intro k
    match k with
    | 0 => obtain ⟨c, h⟩ := prim .int (kGl_ok 0 (by omega)) (fun _ h => h); exact ⟨c, fun _ => h⟩
    | 1 => obtain ⟨c, h⟩ := prim .byte (kGl_ok 1 (by omega)) (fun _ h => h); exact ⟨c, fun _ => h⟩
    | 2 => obtain ⟨c, h⟩ := prim .boolean (kGl_ok 2 (by omega)) (fun _ h => h); exact ⟨c, fun _ => h⟩
    | 3 => obtain ⟨c, h⟩ := prim .long (kGl_ok 3 (by omega)) (fun _ h => h); exact ⟨c, fun _ => h⟩
    | 4 => obtain ⟨c, h⟩ := obj "TwinVoice$Valley" (hts _ (by decide +kernel)); exact ⟨c, fun _ => h⟩
    | 5 => obtain ⟨c, h⟩ := obj "TwinVoice$Slot" (hts _ (by decide +kernel)); exact ⟨c, fun _ => h⟩
    | 6 =>
      obtain ⟨comp, c, k, g1, -, g3, g4, g5⟩ := arrayOverA_spec (hts (Cond.arrayOver (.array .int)) (by decide +kernel))
      exact ⟨c, fun _ => ⟨fun n z => ⟨fun k h => (by cases h), k, g3, comp, g4⟩, g5⟩⟩
    | n + 7 => exact ⟨0, fun h => by omega⟩
  obtain ⟨g, hg⟩ := Classical.axiomOfChoice h2
  refine ⟨fun k => (f k).1, fun k => (f k).2, g, ⟨fun k q hq => hf k q hq, fun k q hq => ?_⟩, fun w hw => ?_, va_AO.of (hts _ (by decide +kernel)), va_AO.of (hts _ (by decide +kernel)), over_moved (Vm.Alike.refl s.vm) (hts (Cond.arrayOver (.array .int)) (by decide +kernel))⟩
  · have hk : k < 7 := (List.getElem?_eq_some_iff.mp hq).1
    rw [gtys_at g hk] at hq
    cases hq
    exact hg k hk
  · have hn := (List.mem_filter.mp hw).2
    have hb := hts w (List.mem_append_right _ (List.mem_filter.mp hw).1)
    exact va_tabs (by cases w <;> first | rfl | cases hn) rfl hb
/-- strings by their numbers in the reference's pool -/
def kMi : List Nat := [189, 191, 193, 195, 174, 161, 166, 168, 170, 172, 176, 178, 186, 187]
def kTm (i : Nat) : Term := .string "TwinVoiceModel" (kMi.getD i 0)
theorem start_S {s : State} {args : Array Value} {A : Nat → Prop} (hgv : (Jvm.Cond.and given_1 narrow_1).before args s = true) (hts : ∀ w ∈ lw_tbl, w.before args s = true) (hA : ∀ a : Nat, a < s.heap.size → ¬ A a) :
    ∃ adK adV : Nat → Nat, vk_S 14 gLen gByt adK adV A s s.heap ∧ ∀ q ∈ gSR, vk_R q.1 q.2.1 q.2.2.1 (adK q.2.2.2) s := by
  have hs := flat_of_before _ hgv
  have hN : ∀ i, i < 14 → gLen.getD i 0 < 2 ^ 31 := by decide
  have hex : ∀ i, i < 14 → (Cond.exactly (kTm i) "java/lang/String") ∈ flatC (Jvm.Cond.and given_1 narrow_1) := by decide +kernel
  have hco : ∀ i, i < 14 → (Cond.eq (.field (kTm i) "java/lang/String" "coder" "B") (.int 0)) ∈ flatC (Jvm.Cond.and given_1 narrow_1) := by decide +kernel
  have har : ∀ i, i < 14 → (Cond.arrayOf (.field (kTm i) "java/lang/String" "value" "[B") .byte) ∈ flatC (Jvm.Cond.and given_1 narrow_1) := by decide +kernel
  have hle : ∀ i, i < 14 → (Cond.eq (.length (.field (kTm i) "java/lang/String" "value" "[B")) (.int (Int32.ofNat (gLen.getD i 0)))) ∈ flatC (Jvm.Cond.and given_1 narrow_1) := by decide +kernel
  have hel : ∀ i, i < 14 → ∀ j, j < gLen.getD i 0 → (Cond.eq (.elem (.field (kTm i) "java/lang/String" "value" "[B") (.int (Int32.ofNat j))) (.int ((gByt.getD i []).getD j 0))) ∈ flatC (Jvm.Cond.and given_1 narrow_1) := by decide +kernel
  have h0 : ∀ i : Nat, ∃ q : Nat × Nat, i < 14 → (kTm i).eval args s none [] s = some (.ref q.1) ∧ va_O "java/lang/String" q.1 A s s.heap ∧ va_OF "java/lang/String" "coder" "B" (.int 0) q.1 A s s.heap ∧ va_OF "java/lang/String" "value" "[B" (.ref q.2) q.1 A s s.heap ∧ va_T .byte q.2 (gLen.getD i 0) (fun j => .int ((gByt.getD i []).getD j 0)) A s s.heap := by
    intro i
    by_cases hi : i < 14
    · obtain ⟨a, c, cA, kA, q1, q2, q3, q4, q5, q6, -⟩ := Cond.exactly_spec (args := args) (first := s) (o := none) (s := s) (idx := []) (t := kTm i) (cls := "java/lang/String") (hs _ (hex i hi))
      obtain ⟨t, ht, hT⟩ := va_Tof (f := fun j => .int ((gByt.getD i []).getD j 0)) (A := A) (hN i hi) (hs _ (har i hi)) (va_eqt (hs _ (hle i hi))) (fun j hj => va_eqt (hs _ (hel i hi j hj))) hA
      exact ⟨(a, t), fun _ => ⟨q1, ⟨cA, q3, q5, by rw [q6]; exact q2, hA a (Array.getElem?_eq_some_iff.mp q3).1⟩, vk_OFof q1 (va_eqt (hs _ (hco i hi))) hA, vk_OFof q1 ht hA, hT⟩⟩
    · exact ⟨(0, 0), fun h => absurd h hi⟩
  obtain ⟨ad, had⟩ := Classical.axiomOfChoice h0
  have hdiff : ∀ i, i < 14 → ∀ j, j < 14 → i ≠ j → gLen.getD i 0 ≠ gLen.getD j 0 ∨ ∃ k, k < gLen.getD i 0 ∧ (gByt.getD i []).getD k 0 ≠ (gByt.getD j []).getD k 0 := by decide +kernel
  refine ⟨fun i => (ad i).1, fun i => (ad i).2, ⟨fun i hi => (had i hi).2, fun i j hi hj e => ?_⟩, ?_⟩
  · by_cases hij : i = j
    · exact hij
    · exfalso
      obtain ⟨-, -, -, f1, t1⟩ := had i hi
      obtain ⟨-, -, -, f2, t2⟩ := had j hj
      simp only at e
      rw [← e] at f2
      obtain ⟨cf, kf, fi, f, cell, a1, a2, a3, a4, a5, a6⟩ := f1
      obtain ⟨cf', kf', fi', f', cell', b1, b2, b3, b4, b5, b6⟩ := f2
      cases a1.symm.trans b1
      cases a3.symm.trans b3
      have ev : (ad i).2 = (ad j).2 := by
        have := a5.symm.trans b5
        simpa using this
      rw [← ev] at t2
      obtain ⟨c1, p1, p2, p3, p4, p5, p6, p7⟩ := t1
      obtain ⟨c2, r1, r2, r3, r4, r5, r6, r7⟩ := t2
      cases p1.symm.trans r1
      have el : gLen.getD i 0 = gLen.getD j 0 := by
        have h2 := p5.symm.trans r5
        have hl : ∀ i, i < 14 → ∀ j, j < 14 → Int32.ofNat (gLen.getD i 0) = Int32.ofNat (gLen.getD j 0) → gLen.getD i 0 = gLen.getD j 0 := by decide +kernel
        exact hl i hi j hj h2
      rcases hdiff i hi j hj hij with h | ⟨k, hk, hne⟩
      · exact h el
      · have h3 := (p6 k hk).symm.trans (r6 k (by rw [← el]; exact hk))
        simp only [Option.some.injEq, Value.int.injEq] at h3
        exact hne h3
  · have hq : ∀ q ∈ gSR, q.2.2.2 < 14 ∧ (Cond.stringRef q.1 q.2.1 q.2.2.1 ∈ lw_tbl ∧ ((q.1 = "TwinVoiceModel" ∧ q.2.1 = kMi.getD q.2.2.2 0) ∨ Cond.eq (.string q.1 q.2.1) (kTm q.2.2.2) ∈ flatC (Jvm.Cond.and given_1 narrow_1))) := by decide +kernel
    intro q hm
    obtain ⟨g1, g2, g3⟩ := hq q hm
    have hev := (had _ g1).1
    refine vk_R.of (A := args) (hts _ g2) ?_
    have key : (Term.string q.1 q.2.1).eval args s none [] s = some (.ref (ad q.2.2.2).1) := by
      rcases g3 with ⟨z1, z2⟩ | g3
      · rw [z1, z2]
        exact hev
      · exact Cond.eq_refs (hs _ g3) hev rfl
    exact key
/-- the environment of the law's frame -/
theorem start_E {s : State} {args : Array Value} {A : Nat → Prop} (hgv : (Jvm.Cond.and given_1 narrow_1).before args s = true) (hts : ∀ w ∈ lw_tbl, w.before args s = true) (hA : ∀ a : Nat, a < s.heap.size → ¬ A a) :
    ∃ adK adV : Nat → Nat, ∀ (al : Nat → Nat) (B : Nat → Prop), (∀ i, i < 14 → al (1000 + i) = adK i) → (∀ q, B q → A q) → gE al adV B s s.heap := by
  have hs := flat_of_before _ hgv
  obtain ⟨adK, adV, hS, hR⟩ := start_S hgv hts hA
  refine ⟨adK, adV, fun al B hal hB => ⟨fun w hw => ?_, ?_, fun q hq => ?_, ?_, ?_⟩⟩
  · have hn := (List.mem_filter.mp hw).2
    have hb := hts w (List.mem_append_right _ (List.mem_filter.mp hw).1)
    exact va_tabs (by cases w <;> first | rfl | cases hn) rfl hb
  · have h2 := hS.narrow hB
    refine ⟨fun i hi => ?_, fun i j hi hj e => h2.2 i j hi hj ?_⟩
    · have := h2.1 i hi
      rw [← hal i hi] at this
      exact this
    · have e : al (1000 + i) = al (1000 + j) := e
      rw [hal i hi, hal j hj] at e
      exact e
  · have h14 : ∀ q ∈ gSR, q.2.2.2 < 14 := by decide
    have := hR q hq
    rw [← hal _ (h14 q hq)] at this
    exact this
  · exact (va_Zof (hts (Cond.laysStatic "java/lang/String" "COMPACT_STRINGS" "Z") (by decide +kernel)) (hts (Cond.initialized "java/lang/String") (by decide +kernel)) (va_eqt (hs (Cond.eq (.static "java/lang/String" "COMPACT_STRINGS" "Z") (.int 1)) (by decide +kernel))) hA).narrow hB
  · exact (va_Zqof (hts (Cond.laysStatic "jdk/internal/util/Preconditions" "SIOOBE_FORMATTER" "Ljava/util/function/BiFunction;") (by decide +kernel)) (hts (Cond.initialized "jdk/internal/util/Preconditions") (by decide +kernel)) (hs (Cond.isRef (.static "jdk/internal/util/Preconditions" "SIOOBE_FORMATTER" "Ljava/util/function/BiFunction;")) (by decide +kernel)) hA).narrow hB
