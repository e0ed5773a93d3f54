/-! the table is kept: laid by wip/gen/gen61.py -/
set_option maxRecDepth 100000
def aHand (i : Nat) : Bool := Nat.blt i 35 || Nat.beq i 579
theorem aNone (i : Nat) (h : 580 ≤ i) : bAt aCT i = none := by
  by_cases c : i / 32 < 19
  · have hr : ∀ i, i < 608 → 580 ≤ i → (bAt aCT i).isNone = true := by decide +kernel
    exact Option.isNone_iff_eq_none.mp (hr i (by omega) h)
  · unfold bAt
    rw [List.getElem?_eq_none (by show 19 ≤ i / 32; omega)]
theorem aC_ok (i : Nat) (hh : aHand i = false) : chkCon2 kMt aCT aLT 138 i = true := by
  have h0 : ¬ i < 35 := fun z => by
    unfold aHand at hh
    rw [show Nat.blt i 35 = true from Nat.blt_eq.mpr z] at hh
    cases hh
  have h1 : i ≠ 579 := fun z => by
    unfold aHand at hh
    rw [show Nat.beq i 579 = true from Nat.beq_eq.mpr z, Bool.or_true] at hh
    cases hh
  by_cases c0 : i < 51
  · exact List.all_eq_true.mp ak0 i (List.mem_range'_1.mpr ⟨by omega, by omega⟩)
  by_cases c1 : i < 67
  · exact List.all_eq_true.mp ak1 i (List.mem_range'_1.mpr ⟨by omega, by omega⟩)
  by_cases c2 : i < 83
  · exact List.all_eq_true.mp ak2 i (List.mem_range'_1.mpr ⟨by omega, by omega⟩)
  by_cases c3 : i < 87
  · exact List.all_eq_true.mp ak3 i (List.mem_range'_1.mpr ⟨by omega, by omega⟩)
  by_cases c4 : i < 88
  · exact List.all_eq_true.mp ak4 i (List.mem_range'_1.mpr ⟨by omega, by omega⟩)
  by_cases c5 : i < 97
  · exact List.all_eq_true.mp ak5 i (List.mem_range'_1.mpr ⟨by omega, by omega⟩)
  by_cases c6 : i < 98
  · exact List.all_eq_true.mp ak6 i (List.mem_range'_1.mpr ⟨by omega, by omega⟩)
  by_cases c7 : i < 114
  · exact List.all_eq_true.mp ak7 i (List.mem_range'_1.mpr ⟨by omega, by omega⟩)
  by_cases c8 : i < 130
  · exact List.all_eq_true.mp ak8 i (List.mem_range'_1.mpr ⟨by omega, by omega⟩)
  by_cases c9 : i < 133
  · exact List.all_eq_true.mp ak9 i (List.mem_range'_1.mpr ⟨by omega, by omega⟩)
  by_cases c10 : i < 134
  · exact List.all_eq_true.mp ak10 i (List.mem_range'_1.mpr ⟨by omega, by omega⟩)
  by_cases c11 : i < 150
  · exact List.all_eq_true.mp ak11 i (List.mem_range'_1.mpr ⟨by omega, by omega⟩)
  by_cases c12 : i < 161
  · exact List.all_eq_true.mp ak12 i (List.mem_range'_1.mpr ⟨by omega, by omega⟩)
  by_cases c13 : i < 162
  · exact List.all_eq_true.mp ak13 i (List.mem_range'_1.mpr ⟨by omega, by omega⟩)
  by_cases c14 : i < 164
  · exact List.all_eq_true.mp ak14 i (List.mem_range'_1.mpr ⟨by omega, by omega⟩)
  by_cases c15 : i < 165
  · exact List.all_eq_true.mp ak15 i (List.mem_range'_1.mpr ⟨by omega, by omega⟩)
  by_cases c16 : i < 174
  · exact List.all_eq_true.mp ak16 i (List.mem_range'_1.mpr ⟨by omega, by omega⟩)
  by_cases c17 : i < 175
  · exact List.all_eq_true.mp ak17 i (List.mem_range'_1.mpr ⟨by omega, by omega⟩)
  by_cases c18 : i < 190
  · exact List.all_eq_true.mp ak18 i (List.mem_range'_1.mpr ⟨by omega, by omega⟩)
  by_cases c19 : i < 191
  · exact List.all_eq_true.mp ak19 i (List.mem_range'_1.mpr ⟨by omega, by omega⟩)
  by_cases c20 : i < 192
  · exact List.all_eq_true.mp ak20 i (List.mem_range'_1.mpr ⟨by omega, by omega⟩)
  by_cases c21 : i < 208
  · exact List.all_eq_true.mp ak21 i (List.mem_range'_1.mpr ⟨by omega, by omega⟩)
  by_cases c22 : i < 224
  · exact List.all_eq_true.mp ak22 i (List.mem_range'_1.mpr ⟨by omega, by omega⟩)
  by_cases c23 : i < 240
  · exact List.all_eq_true.mp ak23 i (List.mem_range'_1.mpr ⟨by omega, by omega⟩)
  by_cases c24 : i < 256
  · exact List.all_eq_true.mp ak24 i (List.mem_range'_1.mpr ⟨by omega, by omega⟩)
  by_cases c25 : i < 272
  · exact List.all_eq_true.mp ak25 i (List.mem_range'_1.mpr ⟨by omega, by omega⟩)
  by_cases c26 : i < 288
  · exact List.all_eq_true.mp ak26 i (List.mem_range'_1.mpr ⟨by omega, by omega⟩)
  by_cases c27 : i < 295
  · exact List.all_eq_true.mp ak27 i (List.mem_range'_1.mpr ⟨by omega, by omega⟩)
  by_cases c28 : i < 296
  · exact List.all_eq_true.mp ak28 i (List.mem_range'_1.mpr ⟨by omega, by omega⟩)
  by_cases c29 : i < 312
  · exact List.all_eq_true.mp ak29 i (List.mem_range'_1.mpr ⟨by omega, by omega⟩)
  by_cases c30 : i < 328
  · exact List.all_eq_true.mp ak30 i (List.mem_range'_1.mpr ⟨by omega, by omega⟩)
  by_cases c31 : i < 329
  · exact List.all_eq_true.mp ak31 i (List.mem_range'_1.mpr ⟨by omega, by omega⟩)
  by_cases c32 : i < 330
  · exact List.all_eq_true.mp ak32 i (List.mem_range'_1.mpr ⟨by omega, by omega⟩)
  by_cases c33 : i < 346
  · exact List.all_eq_true.mp ak33 i (List.mem_range'_1.mpr ⟨by omega, by omega⟩)
  by_cases c34 : i < 362
  · exact List.all_eq_true.mp ak34 i (List.mem_range'_1.mpr ⟨by omega, by omega⟩)
  by_cases c35 : i < 378
  · exact List.all_eq_true.mp ak35 i (List.mem_range'_1.mpr ⟨by omega, by omega⟩)
  by_cases c36 : i < 394
  · exact List.all_eq_true.mp ak36 i (List.mem_range'_1.mpr ⟨by omega, by omega⟩)
  by_cases c37 : i < 410
  · exact List.all_eq_true.mp ak37 i (List.mem_range'_1.mpr ⟨by omega, by omega⟩)
  by_cases c38 : i < 420
  · exact List.all_eq_true.mp ak38 i (List.mem_range'_1.mpr ⟨by omega, by omega⟩)
  by_cases c39 : i < 421
  · exact List.all_eq_true.mp ak39 i (List.mem_range'_1.mpr ⟨by omega, by omega⟩)
  by_cases c40 : i < 428
  · exact List.all_eq_true.mp ak40 i (List.mem_range'_1.mpr ⟨by omega, by omega⟩)
  by_cases c41 : i < 429
  · exact List.all_eq_true.mp ak41 i (List.mem_range'_1.mpr ⟨by omega, by omega⟩)
  by_cases c42 : i < 445
  · exact List.all_eq_true.mp ak42 i (List.mem_range'_1.mpr ⟨by omega, by omega⟩)
  by_cases c43 : i < 461
  · exact List.all_eq_true.mp ak43 i (List.mem_range'_1.mpr ⟨by omega, by omega⟩)
  by_cases c44 : i < 477
  · exact List.all_eq_true.mp ak44 i (List.mem_range'_1.mpr ⟨by omega, by omega⟩)
  by_cases c45 : i < 493
  · exact List.all_eq_true.mp ak45 i (List.mem_range'_1.mpr ⟨by omega, by omega⟩)
  by_cases c46 : i < 509
  · exact List.all_eq_true.mp ak46 i (List.mem_range'_1.mpr ⟨by omega, by omega⟩)
  by_cases c47 : i < 525
  · exact List.all_eq_true.mp ak47 i (List.mem_range'_1.mpr ⟨by omega, by omega⟩)
  by_cases c48 : i < 541
  · exact List.all_eq_true.mp ak48 i (List.mem_range'_1.mpr ⟨by omega, by omega⟩)
  by_cases c49 : i < 542
  · exact List.all_eq_true.mp ak49 i (List.mem_range'_1.mpr ⟨by omega, by omega⟩)
  by_cases c50 : i < 543
  · exact List.all_eq_true.mp ak50 i (List.mem_range'_1.mpr ⟨by omega, by omega⟩)
  by_cases c51 : i < 559
  · exact List.all_eq_true.mp ak51 i (List.mem_range'_1.mpr ⟨by omega, by omega⟩)
  by_cases c52 : i < 560
  · exact List.all_eq_true.mp ak52 i (List.mem_range'_1.mpr ⟨by omega, by omega⟩)
  by_cases c53 : i < 576
  · exact List.all_eq_true.mp ak53 i (List.mem_range'_1.mpr ⟨by omega, by omega⟩)
  by_cases c54 : i < 577
  · exact List.all_eq_true.mp ak54 i (List.mem_range'_1.mpr ⟨by omega, by omega⟩)
  by_cases c55 : i < 578
  · exact List.all_eq_true.mp ak55 i (List.mem_range'_1.mpr ⟨by omega, by omega⟩)
  by_cases c56 : i < 579
  · exact List.all_eq_true.mp ak56 i (List.mem_range'_1.mpr ⟨by omega, by omega⟩)
  · unfold chkCon2
    rw [aNone i (by omega)]
theorem hand_giv {l : Launch} {X : gX} {adV : Nat → Nat} {i : Nat} {y : MethodName} {cb : ByteArray} {maxL : Nat} {ret : Option FieldType} {Post : Option gV → gM → Prop} (hI : gIn X adV l (i + 5) y cb maxL ret kG Post) (hy : y.cls = RX12) (ih : tabTo l kF kMt aCT i) (q : Nat × Nat × Nat × List Nat) (hcq : chkCall2 kMt aCT aLT 138 i 12 q = true) :
    (q.2.1 = 0 → ∀ j ∈ q.2.2.2, sGiv X kP kF 3748 (.invokevirtual q.1) (tCon2 aCT j)) ∧ (q.2.1 = 1 → ∀ j ∈ q.2.2.2, sGiv X kP kF 3748 (.invokestatic q.1) (tCon2 aCT j)) := by
  have ho : gXo X = ownN 12 := by
    rw [hI.2.2.2.2.2.2.2.1, hy]
    rfl
  have g := tab_giv (see := 138) hI kMt_ok aLT_ok ih (fun c m hc hm => by
    cases (rfl : bAt aCT 138 = some ab138).symm.trans hc
    cases (rfl : kMt[183]? = some (yX12_see, cX12_see, 2, some .int, 0, 12, kEX12, kkX12_see)).symm.trans hm
    exact see_ok l _) ho hcq
  exact ⟨g.1, g.2.1⟩
theorem canBe_giv (l : Launch) (ih : tabTo l kF kMt aCT 578) : ∀ X adV Post, gIn X adV l (578 + 5) yX12_canSay cX12_canSay 3 (some .boolean) kG Post → sGiv X kP kF 3748 (.invokevirtual 265) kCanBe := fun X adV Post hI =>
  (hand_giv hI rfl ih (265, 0, 2, [253]) (by decide +kernel)).1 rfl 253 List.mem_cons_self
theorem judge_giv (l : Launch) (ih : tabTo l kF kMt aCT 579) : judG l (579 + 5) := fun X adV Post hI => ⟨(hand_giv hI rfl ih (375, 1, 1, [450]) (by decide +kernel)).2 rfl 450 List.mem_cons_self, (hand_giv hI rfl ih (253, 0, 1, [248]) (by decide +kernel)).1 rfl 248 List.mem_cons_self, (hand_giv hI rfl ih (268, 0, 3, [258]) (by decide +kernel)).1 rfl 258 List.mem_cons_self, (hand_giv hI rfl ih (290, 0, 1, [293]) (by decide +kernel)).1 rfl 293 List.mem_cons_self⟩
theorem aTab (l : Launch) (i : Nat) : tabTo l kF kMt aCT i := by
  refine tab2_ok l kF_01 kF_env kMt_ok kMt_E aLT_ok aHand (fun i c m hh hc hm ih => ?_) (fun c m hc hm => by
    cases (rfl : bAt aCT 138 = some ab138).symm.trans hc
    cases (rfl : kMt[183]? = some (yX12_see, cX12_see, 2, some .int, 0, 12, kEX12, kkX12_see)).symm.trans hm
    exact see_ok l _) aC_ok i
  by_cases h32 : i < 32
  · exfalso
    have h4 : ∀ i, i < 32 → (match bAt aCT i with | some c => Nat.ble 307 c.1 | none => true) = true := by decide +kernel
    have w := h4 i h32
    rw [hc] at w
    simp only [Nat.ble_eq] at w
    have hn : kMt[c.1]? = none := List.getElem?_eq_none (by
      have : kMt.length = 307 := by decide +kernel
      omega)
    rw [hn] at hm
    cases hm
  have hi : i = 32 ∨ i = 33 ∨ i = 34 ∨ i = 579 := by
    unfold aHand at hh
    simp only [Bool.or_eq_true, Nat.blt_eq, Nat.beq_eq] at hh
    omega
  rcases hi with rfl | rfl | rfl | rfl
  · cases (rfl : bAt aCT 32 = some ab32).symm.trans hc
    cases (rfl : kMt[187]? = some (yX12_is, cX12_is, 4, some .boolean, 1, 12, kEX12, kkX12_is)).symm.trans hm
    exact is_ok l _ (by omega) 0 (by omega)
  · cases (rfl : bAt aCT 33 = some ab33).symm.trans hc
    cases (rfl : kMt[187]? = some (yX12_is, cX12_is, 4, some .boolean, 1, 12, kEX12, kkX12_is)).symm.trans hm
    exact is_ok l _ (by omega) 1 (by omega)
  · cases (rfl : bAt aCT 34 = some ab34).symm.trans hc
    cases (rfl : kMt[187]? = some (yX12_is, cX12_is, 4, some .boolean, 1, 12, kEX12, kkX12_is)).symm.trans hm
    exact is_ok l _ (by omega) 2 (by omega)
  · cases (rfl : bAt aCT 579 = some ab579).symm.trans hc
    cases (rfl : kMt[293]? = some (yX12_judge, cX12_judge, 5, some .int, 0, 12, kEX12, kkX12_judge)).symm.trans hm
    exact judge_ok l (578 + 5) (579 + 5) (by omega) (judge_giv l ih) (canBe_giv l (fun j hj => ih j (by omega)))
/-- say, over the table -/
theorem say_tab (l : Launch) (a b : Int32) (mu : gM) (hp : gProf kP mu) (hS : SI mu) : gMet l (579 + 5) yX12_say cX12_say 3 (some .int) kG [gR 166, gI a, gI b] mu (fun r mu' => (∃ z, r = some (gI z)) ∧ gProf kP mu' ∧ SI mu' ∧ ∀ p, sayOut p → mu' p = mu p) :=
  say_ok l (578 + 5) (579 + 5) (by omega) (fun X adV Post hI => ⟨(hand_giv hI rfl (aTab l 579) (268, 0, 3, [258]) (by decide +kernel)).1 rfl 258 List.mem_cons_self, (hand_giv hI rfl (aTab l 579) (290, 0, 1, [293]) (by decide +kernel)).1 rfl 293 List.mem_cons_self, (hand_giv hI rfl (aTab l 579) (406, 0, 1, [486]) (by decide +kernel)).1 rfl 486 List.mem_cons_self⟩) (canBe_giv l (aTab l 578)) a b mu hp hS
