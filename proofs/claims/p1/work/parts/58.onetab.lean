/-! the table of contracts is kept -/
set_option maxRecDepth 100000
theorem oNone (i : Nat) (h : 275 ≤ i) : bAt oCT i = none := by
  by_cases c : i / 32 < 9
  · have hr : ∀ i, i < 288 → 275 ≤ i → (bAt oCT i).isNone = true := by decide +kernel
    exact Option.isNone_iff_eq_none.mp (hr i (by omega) h)
  · unfold bAt
    rw [List.getElem?_eq_none (by show 9 ≤ i / 32; omega)]
theorem oC_ok (i : Nat) (h : 4 ≤ i) : chkCon kMt oCT oLT 9999 i = true := by
  by_cases c0 : i < 20
  · exact List.all_eq_true.mp ok0 i (List.mem_range'_1.mpr ⟨by omega, by omega⟩)
  by_cases c1 : i < 36
  · exact List.all_eq_true.mp ok1 i (List.mem_range'_1.mpr ⟨by omega, by omega⟩)
  by_cases c2 : i < 52
  · exact List.all_eq_true.mp ok2 i (List.mem_range'_1.mpr ⟨by omega, by omega⟩)
  by_cases c3 : i < 68
  · exact List.all_eq_true.mp ok3 i (List.mem_range'_1.mpr ⟨by omega, by omega⟩)
  by_cases c4 : i < 84
  · exact List.all_eq_true.mp ok4 i (List.mem_range'_1.mpr ⟨by omega, by omega⟩)
  by_cases c5 : i < 100
  · exact List.all_eq_true.mp ok5 i (List.mem_range'_1.mpr ⟨by omega, by omega⟩)
  by_cases c6 : i < 116
  · exact List.all_eq_true.mp ok6 i (List.mem_range'_1.mpr ⟨by omega, by omega⟩)
  by_cases c7 : i < 132
  · exact List.all_eq_true.mp ok7 i (List.mem_range'_1.mpr ⟨by omega, by omega⟩)
  by_cases c8 : i < 148
  · exact List.all_eq_true.mp ok8 i (List.mem_range'_1.mpr ⟨by omega, by omega⟩)
  by_cases c9 : i < 164
  · exact List.all_eq_true.mp ok9 i (List.mem_range'_1.mpr ⟨by omega, by omega⟩)
  by_cases c10 : i < 180
  · exact List.all_eq_true.mp ok10 i (List.mem_range'_1.mpr ⟨by omega, by omega⟩)
  by_cases c11 : i < 196
  · exact List.all_eq_true.mp ok11 i (List.mem_range'_1.mpr ⟨by omega, by omega⟩)
  by_cases c12 : i < 212
  · exact List.all_eq_true.mp ok12 i (List.mem_range'_1.mpr ⟨by omega, by omega⟩)
  by_cases c13 : i < 228
  · exact List.all_eq_true.mp ok13 i (List.mem_range'_1.mpr ⟨by omega, by omega⟩)
  by_cases c14 : i < 244
  · exact List.all_eq_true.mp ok14 i (List.mem_range'_1.mpr ⟨by omega, by omega⟩)
  by_cases c15 : i < 260
  · exact List.all_eq_true.mp ok15 i (List.mem_range'_1.mpr ⟨by omega, by omega⟩)
  by_cases c16 : i < 275
  · exact List.all_eq_true.mp ok16 i (List.mem_range'_1.mpr ⟨by omega, by omega⟩)
  · unfold chkCon
    rw [oNone i (by omega)]
theorem oTab (l : Launch) : ∀ (i : Nat) (c : tC) (m : tM), bAt oCT i = some c → kMt[c.1]? = some m → cMet l (i + 5) m.1 m.2.1 m.2.2.1 m.2.2.2.1 kG kP (fun _ _ _ => 0) 3748 c.2.1 := by
  have hlenM : kMt.length = 307 := by decide +kernel
  have h4 : ∀ i, i < 4 → (match bAt oCT i with | some c => Nat.ble 307 c.1 | none => true) = true := by decide +kernel
  refine tab_ok (see := 9999) l (fun mu j hj => ⟨Int.le_refl 0, (by decide : (0 : Int) ≤ 1)⟩) (fun E _ _ => ⟨fun _ _ _ _ _ _ _ _ => rfl, fun _ _ _ _ _ _ _ => rfl⟩) kg1 kg2 kg3 kg4 kg5 kMt_ok kMt_E (List.all_eq_true.mp oLT_ok) 4 (fun i c m hi hc hm => ?_) (fun c m hc => ?_) (by decide +kernel) oC_ok
  · exfalso
    have w := h4 i hi
    rw [hc] at w
    simp only [Nat.ble_eq] at w
    have hn : kMt[c.1]? = none := List.getElem?_eq_none (by rw [hlenM]; exact w)
    rw [hn] at hm
    cases hm
  · rw [oNone 9999 (by decide)] at hc
    cases hc
