/-! Math's own methods, given at calls -/
def kMath (t : Nat) : sC := match t with
  | 0 => ([.inl (-2147483648, 2147483647), .inl (-2147483648, 2147483647)], [], [], [(some (.inl (.inl (0, [(3749, 1)]))), [], [], [(1, [(3748, 1), (3749, -1)])], 0), (some (.inl (.inl (0, [(3748, 1)]))), [], [], [(0, [(3748, -1), (3749, 1)])], 0)])
  | 1 => ([.inl (-2147483648, 2147483647), .inl (-2147483648, 2147483647)], [], [], [(some (.inl (.inl (0, [(3749, 1)]))), [], [], [(1, [(3748, -1), (3749, 1)])], 0), (some (.inl (.inl (0, [(3748, 1)]))), [], [], [(0, [(3748, 1), (3749, -1)])], 0)])
  | 2 => ([.inl (-2147483647, 2147483647)], [], [], [(some (.inl (.inl (0, [(3748, 1)]))), [], [], [(0, [(3748, -1)])], 0), (some (.inl (.inl (0, [(3748, -1)]))), [], [], [(1, [(3748, 1)])], 0)])
  | _ => ([.inl (-2147483648, 2147483647)], [], [], [(some (.inl (.inl (0, [(3764, 1)]))), [], [(3764, -2147483648, 2147483647)], [], 1)])
def mathRow (own : String) (idx t : Nat) : Bool := decide (Jvm.Cond.initialized "java/lang/Math" ∈ TW) && (match t with
  | 0 => decide (Jvm.Cond.methodLink own idx Lib.Math.max.name ∈ TW) && (decide (Jvm.Cond.static Lib.Math.max.name ∈ TW) && decide (Jvm.Cond.code Lib.Math.max.name Lib.Math.max.code 2 (some .int) ∈ TW))
  | 1 => decide (Jvm.Cond.methodLink own idx Lib.Math.min.name ∈ TW) && (decide (Jvm.Cond.static Lib.Math.min.name ∈ TW) && decide (Jvm.Cond.code Lib.Math.min.name Lib.Math.min.code 2 (some .int) ∈ TW))
  | _ => decide (Jvm.Cond.methodLink own idx Lib.Math.abs.name ∈ TW) && (decide (Jvm.Cond.static Lib.Math.abs.name ∈ TW) && decide (Jvm.Cond.code Lib.Math.abs.name Lib.Math.abs.code 1 (some .int) ∈ TW)))
section MATH
variable {X : gX} {F : Nat → Int → gM → Int} {P : sP}
theorem math_out {av : List gV} {mu : gM} {l : sL} {li : List sL} {r : Int32} (hp : gProf P mu) (h1 : r.toInt = sEv (sR0 3748 F av mu) l) (h2 : sLiOK (sR0 3748 F av mu) li) : sXOK 3748 P F av mu (some (.inl (.inl l)), [], [], li, 0) (some (gI r)) mu :=
  ⟨sR0 3748 F av mu, sR0_ok 3748 F av mu (sAg.rf _ _), h1, hp, fun p => rfl, fun q hq => absurd hq List.not_mem_nil, h2⟩
theorem math_a0 {x : Int32} {av : List gV} {mu : gM} : sR0 3748 F (gI x :: av) mu 3748 = x.toInt := by
  unfold sR0
  rw [if_neg (by omega), if_pos (by omega)]
  rfl
theorem math_a1 {x : Int32} {v : gV} {av : List gV} {mu : gM} : sR0 3748 F (v :: gI x :: av) mu 3749 = x.toInt := by
  unfold sR0
  rw [if_neg (by omega), if_pos (by omega)]
  rfl
theorem math_li1 {r : Nat → Int} {l : sL} (h : sEv r l ≤ 0) : sLiOK r [l] := fun m hm => by
  rw [List.mem_singleton.mp hm]
  exact h
theorem giv_math (h : gOK X) {d idx t : Nat} (hrm : gRm X d) (ht : t < 4) (hw : mathRow (gXo X) idx t = true) : sGiv X P F 3748 (.invokestatic idx) (kMath t) := by
  intro pc lv av sv mu hd ha hp hpre hs kk H locs ls hR hl
  simp only [mathRow, Bool.and_eq_true, decide_eq_true_eq] at hw
  have hrf : 1 ≤ (gXR X).frames ∧ 8 + 13 ≤ (gXR X).locals := by
    rcases hrm with z | ⟨z, -⟩
    · rw [z]; simp only [grm]; omega
    · rw [z]; simp only [room_1]; omega
  have hsum := g_sum X sv hs
  have hml : (gXc X).maxLocals = ls.size := by rw [h.n]; exact hl.1.symm
  have e2 : ∀ x y : Int32, ([gI x, gI y].reverse ++ sv).map (gc (gXal X)) = .int y :: .int x :: sv.map (gc (gXal X)) := fun _ _ => rfl
  have e1 : ∀ x : Int32, ([gI x].reverse ++ sv).map (gc (gXal X)) = .int x :: sv.map (gc (gXal X)) := fun _ => rfl
  have two : (t = 0 ∨ t = 1) → ∃ x y, av = [gI x, gI y] := fun ht => by
    have hl2 : (kMath t).1.length = av.length := argOK_len _ _ ha
    have hga : gArgOK [.inl (-2147483648, 2147483647), .inl (-2147483648, 2147483647)] av := by
      rcases ht with rfl | rfl <;> exact ha
    rcases av with _ | ⟨(x | x) | x, _ | ⟨(y | y) | y, _ | ⟨w, av⟩⟩⟩
    all_goals first | exact ⟨x, y, rfl⟩ | exact (show False from hga).elim | exact (show False from hga.2).elim | exact (show False from hga.2.2).elim
  have one : (t = 2 ∨ t = 3) → ∃ x, av = [gI x] := fun ht => by
    have hl2 : (kMath t).1.length = av.length := argOK_len _ _ ha
    rcases av with _ | ⟨(x | x) | x, _ | ⟨w, av⟩⟩
    all_goals first | exact ⟨x, rfl⟩ | (rcases ht with rfl | rfl <;> first | exact (show False from ha).elim | exact (show False from ha.2).elim)
  rcases (show t = 0 ∨ t = 1 ∨ t = 2 ∨ t = 3 by omega) with rfl | rfl | rfl | rfl
  · obtain ⟨x, y, rfl⟩ := two (.inl rfl)
    simp only [Bool.and_eq_true, decide_eq_true_eq] at hw
    obtain ⟨w0, w1, w2, w3⟩ := hw
    rw [e2]
    refine va_mmax h.x h.b hml h.o (h.t _ w1) (h.t _ w2) (h.t _ w0) (h.t _ w3) hrf.1 (by omega) (Nat.zero_le _) (Nat.zero_le _) hd ?_
    by_cases c : x < y
    · rw [if_pos c]
      rw [Int32.lt_iff_toInt_lt] at c
      refine kk _ List.mem_cons_self (some (gI y)) mu (math_out hp ?_ (math_li1 ?_)) H locs ls hR hl
      · show y.toInt = 0 + (1 * sR0 3748 F [gI x, gI y] mu 3749 + 0)
        rw [math_a1]; omega
      · show 1 + (1 * sR0 3748 F [gI x, gI y] mu 3748 + (-1 * sR0 3748 F [gI x, gI y] mu 3749 + 0)) ≤ 0
        rw [math_a1, math_a0]; omega
    · rw [if_neg c]
      rw [Int32.lt_iff_toInt_lt] at c
      refine kk _ (List.mem_cons_of_mem _ List.mem_cons_self) (some (gI x)) mu (math_out hp ?_ (math_li1 ?_)) H locs ls hR hl
      · show x.toInt = 0 + (1 * sR0 3748 F [gI x, gI y] mu 3748 + 0)
        rw [math_a0]; omega
      · show 0 + (-1 * sR0 3748 F [gI x, gI y] mu 3748 + (1 * sR0 3748 F [gI x, gI y] mu 3749 + 0)) ≤ 0
        rw [math_a1, math_a0]; omega
  · obtain ⟨x, y, rfl⟩ := two (.inr rfl)
    simp only [Bool.and_eq_true, decide_eq_true_eq] at hw
    obtain ⟨w0, w1, w2, w3⟩ := hw
    rw [e2]
    refine va_mmin h.x h.b hml h.o (h.t _ w1) (h.t _ w2) (h.t _ w0) (h.t _ w3) hrf.1 (by omega) (Nat.zero_le _) (Nat.zero_le _) hd ?_
    by_cases c : y < x
    · rw [if_pos c]
      rw [Int32.lt_iff_toInt_lt] at c
      refine kk _ List.mem_cons_self (some (gI y)) mu (math_out hp ?_ (math_li1 ?_)) H locs ls hR hl
      · show y.toInt = 0 + (1 * sR0 3748 F [gI x, gI y] mu 3749 + 0)
        rw [math_a1]; omega
      · show 1 + (-1 * sR0 3748 F [gI x, gI y] mu 3748 + (1 * sR0 3748 F [gI x, gI y] mu 3749 + 0)) ≤ 0
        rw [math_a1, math_a0]; omega
    · rw [if_neg c]
      rw [Int32.lt_iff_toInt_lt] at c
      refine kk _ (List.mem_cons_of_mem _ List.mem_cons_self) (some (gI x)) mu (math_out hp ?_ (math_li1 ?_)) H locs ls hR hl
      · show x.toInt = 0 + (1 * sR0 3748 F [gI x, gI y] mu 3748 + 0)
        rw [math_a0]; omega
      · show 0 + (1 * sR0 3748 F [gI x, gI y] mu 3748 + (-1 * sR0 3748 F [gI x, gI y] mu 3749 + 0)) ≤ 0
        rw [math_a1, math_a0]; omega
  · obtain ⟨x, rfl⟩ := one (.inl rfl)
    simp only [Bool.and_eq_true, decide_eq_true_eq] at hw
    obtain ⟨w0, w1, w2, w3⟩ := hw
    rw [e1]
    refine va_mabs h.x h.b hml h.o (h.t _ w1) (h.t _ w2) (h.t _ w0) (h.t _ w3) hrf.1 (by omega) (Nat.zero_le _) (Nat.zero_le _) hd ?_
    have hx : -2147483647 ≤ x.toInt ∧ x.toInt ≤ 2147483647 := ha.1
    by_cases c : 0 ≤ x
    · rw [if_pos c]
      rw [Int32.le_iff_toInt_le, Int32.toInt_zero] at c
      refine kk _ List.mem_cons_self (some (gI x)) mu (math_out hp ?_ (math_li1 ?_)) H locs ls hR hl
      · show x.toInt = 0 + (1 * sR0 3748 F [gI x] mu 3748 + 0)
        rw [math_a0]; omega
      · show 0 + (-1 * sR0 3748 F [gI x] mu 3748 + 0) ≤ 0
        rw [math_a0]; omega
    · rw [if_neg c]
      rw [Int32.le_iff_toInt_le, Int32.toInt_zero] at c
      refine kk _ (List.mem_cons_of_mem _ List.mem_cons_self) (some (gI (0 - x))) mu (math_out hp ?_ (math_li1 ?_)) H locs ls hR hl
      · show (0 - x).toInt = 0 + (-1 * sR0 3748 F [gI x] mu 3748 + 0)
        rw [math_a0, Int32.toInt_sub, Int32.toInt_zero, Int.bmod_eq_of_le (by omega) (by omega)]
        omega
      · show 1 + (1 * sR0 3748 F [gI x] mu 3748 + 0) ≤ 0
        rw [math_a0]; omega
  · obtain ⟨x, rfl⟩ := one (.inr rfl)
    simp only [Bool.and_eq_true, decide_eq_true_eq] at hw
    obtain ⟨w0, w1, w2, w3⟩ := hw
    rw [e1]
    refine va_mabs h.x h.b hml h.o (h.t _ w1) (h.t _ w2) (h.t _ w0) (h.t _ w3) hrf.1 (by omega) (Nat.zero_le _) (Nat.zero_le _) hd ?_
    generalize (if 0 ≤ x then x else 0 - x) = r
    have hag : sAg (3748 + 16) (sR0 3748 F [gI x] mu) (fun k => if k = 3764 then r.toInt else sR0 3748 F [gI x] mu k) := fun k hk => by
      show (if k = 3764 then r.toInt else sR0 3748 F [gI x] mu k) = _
      rw [if_neg (by omega)]
    refine kk _ List.mem_cons_self (some (gI r)) mu ⟨fun k => if k = 3764 then r.toInt else sR0 3748 F [gI x] mu k, sR0_ok 3748 F _ mu hag, ?_, hp, fun p => rfl, fun q hq => ?_, fun q hq => absurd hq List.not_mem_nil⟩ H locs ls hR hl
    · show r.toInt = 0 + (1 * (if 3764 = 3764 then r.toInt else sR0 3748 F [gI x] mu 3764) + 0)
      rw [if_pos rfl]; omega
    · rw [List.mem_singleton.mp hq]
      show -2147483648 ≤ (if 3764 = 3764 then r.toInt else sR0 3748 F [gI x] mu 3764) ∧ (if 3764 = 3764 then r.toInt else sR0 3748 F [gI x] mu 3764) ≤ 2147483647
      rw [if_pos rfl]
      have h1 : Int32.minValue.toInt ≤ r.toInt := r.minValue_le_toInt
      have h2 : r.toInt ≤ Int32.maxValue.toInt := r.toInt_le
      have h3 : Int32.minValue.toInt = -2147483648 := by decide
      have h4 : Int32.maxValue.toInt = 2147483647 := by decide
      omega
end MATH
