/-! THE ENGINE IS SOUND: arithmetic -/
theorem x32_nat {x : Int32} (h : 0 ≤ x.toInt) : x.toInt = (x.toBitVec.toNat : Int) ∧ x.toBitVec.toNat < 2147483648 := by
  have h1 := BitVec.toInt_eq_toNat_cond x.toBitVec
  have h2 := x.toBitVec.isLt
  rw [Int32.toInt_toBitVec] at h1
  split at h1 <;> omega
theorem x32_of {x : Int32} (h : x.toBitVec.toNat < 2147483648) : x.toInt = (x.toBitVec.toNat : Int) := by
  have h1 := BitVec.toInt_eq_toNat_cond x.toBitVec
  rw [Int32.toInt_toBitVec] at h1
  split at h1 <;> omega
theorem x32_eq {x : Int32} {n : Int} (h : x.toInt = n) : x = Int32.ofInt n := by rw [← h, Int32.ofInt_toInt]
theorem ar_and {x y : Int32} (h : 0 ≤ x.toInt) : 0 ≤ (x &&& y).toInt ∧ (x &&& y).toInt ≤ x.toInt := by
  obtain ⟨h1, h2⟩ := x32_nat h
  have h3 : (x &&& y).toBitVec.toNat ≤ x.toBitVec.toNat := by
    rw [Int32.toBitVec_and, BitVec.toNat_and]
    exact Nat.and_le_left
  have h4 := x32_of (x := x &&& y) (by omega)
  omega
theorem ar_and2 {x y : Int32} (h : 0 ≤ y.toInt) : 0 ≤ (x &&& y).toInt ∧ (x &&& y).toInt ≤ y.toInt := by
  rw [Int32.and_comm]
  exact ar_and h
theorem ar_sh31 : ∀ k : Nat, k < 31 → ((Int32.ofNat k &&& 31).toBitVec.smod 32).toNat = k := by decide +kernel
theorem ar_shl {x y : Int32} {a h : Int} (hx : 0 ≤ x.toInt) (hxa : x.toInt ≤ a) (hy : 0 ≤ y.toInt) (hyh : y.toInt ≤ h) (hh : h ≤ 30) (hr : a * 2 ^ h.toNat ≤ i32h) : 0 ≤ (x <<< (y &&& 31)).toInt ∧ (x <<< (y &&& 31)).toInt ≤ a * 2 ^ h.toNat := by
  have e : y = Int32.ofNat y.toInt.toNat := by
    rw [x32_eq (x := y) (n := y.toInt) rfl]
    rw [Int32.ofInt_toInt]
    conv => lhs; rw [x32_eq (x := y) (n := y.toInt) rfl]
    rw [show y.toInt = ((y.toInt.toNat : Nat) : Int) by omega]
    rfl
  have k0 : ((y &&& 31).toBitVec.smod 32).toNat = y.toInt.toNat := by
    rw [e]
    have := ar_sh31 y.toInt.toNat (by omega)
    rw [← e] at this ⊢
    exact this
  have hp : (2 : Int) ^ y.toInt.toNat ≤ 2 ^ h.toNat := by
    have := Nat.pow_le_pow_right (show 0 < 2 by omega) (show y.toInt.toNat ≤ h.toNat by omega)
    exact_mod_cast this
  have hp0 : (0 : Int) ≤ 2 ^ y.toInt.toNat := by
    have := Nat.zero_le (2 ^ y.toInt.toNat)
    exact_mod_cast this
  have h1 : x.toInt * 2 ^ y.toInt.toNat ≤ a * 2 ^ h.toNat := Int.le_trans (Int.mul_le_mul_of_nonneg_right hxa hp0) (Int.mul_le_mul_of_nonneg_left hp (by omega))
  have h2 : 0 ≤ x.toInt * 2 ^ y.toInt.toNat := Int.mul_nonneg hx hp0
  unfold i32h at hr
  rw [_root_.Jvm.Kit.i32_shl x (y &&& 31) k0 (by omega) (by omega)]
  exact ⟨h2, h1⟩
theorem ar_div_nn {a : Int} (h : 0 ≤ a) (k : Nat) : 0 ≤ a / 2 ^ k ∧ a / 2 ^ k ≤ a := by
  have hp : (0 : Int) < 2 ^ k := by
    have := Nat.two_pow_pos k
    exact_mod_cast this
  exact ⟨Int.ediv_nonneg h (Int.le_of_lt hp), Int.ediv_le_self _ h⟩
theorem ar_shr {x y : Int32} (hx : 0 ≤ x.toInt) : 0 ≤ (x >>> (y &&& 31)).toInt ∧ (x >>> (y &&& 31)).toInt ≤ x.toInt := by
  rw [_root_.Jvm.Kit.i32_shr x (y &&& 31) rfl]
  exact ar_div_nn hx _
theorem ar_ushr {x y : Int32} (hx : 0 ≤ x.toInt) : 0 ≤ ((x.toUInt32 >>> (y.toUInt32 &&& Int32.toUInt32 31)).toInt32).toInt ∧ ((x.toUInt32 >>> (y.toUInt32 &&& Int32.toUInt32 31)).toInt32).toInt ≤ x.toInt := by
  have h1 := pk_ushr x y _ rfl
  obtain ⟨h2, h3⟩ := x32_nat hx
  have h4 : ((x.toUInt32 >>> (y.toUInt32 &&& Int32.toUInt32 31)).toInt32).toBitVec.toNat ≤ x.toBitVec.toNat := by
    rw [h1]
    exact Nat.div_le_self _ _
  have h5 := x32_of (x := (x.toUInt32 >>> (y.toUInt32 &&& Int32.toUInt32 31)).toInt32) (by omega)
  omega
/-- the machine's own result of an operation of two ints -/
def arF : Instr → Int32 → Int32 → Int32
  | .iand, x, y => x &&& y
  | .ior, x, y => x ||| y
  | .ixor, x, y => x ^^^ y
  | .ishl, x, y => x <<< (y &&& 31)
  | .ishr, x, y => x >>> (y &&& 31)
  | .iushr, x, y => (x.toUInt32 >>> (y.toUInt32 &&& Int32.toUInt32 31)).toInt32
  | .imul, x, y => x * y
  | _, _, _ => 0
theorem sArI_ok {P : sP} {S : sS} {r : Nat → Int} (hF : sFx P r S) {x' y' : sL} {x y : Int32} (hx : x.toInt = sEv r x') (hy : y.toInt = sEv r y') (ins : Instr) : (sArI P S ins x' y').1 ≤ (arF ins x y).toInt ∧ (arF ins x y).toInt ≤ (sArI P S ins x' y').2 := by
  have full := i32_range (arF ins x y)
  cases cx : sB P S.iv x' with
  | none =>
    have e : sArI P S ins x' y' = (i32l, i32h) := by
      unfold sArI
      rw [cx]
      cases ins <;> rfl
    rw [e]
    exact full
  | some g =>
    cases cy : sB P S.iv y' with
    | none =>
      have e : sArI P S ins x' y' = (i32l, i32h) := by
        unfold sArI
        rw [cx, cy]
        cases ins <;> rfl
      rw [e]
      exact full
    | some h =>
      have b1 := sB_ok hF.1 hF.2.2 cx
      have b2 := sB_ok hF.1 hF.2.2 cy
      rw [← hx] at b1
      rw [← hy] at b2
      have k : g.1 = g.2 ∧ h.1 = h.2 → x = Int32.ofInt g.1 ∧ y = Int32.ofInt h.1 := fun q => ⟨x32_eq (by omega), x32_eq (by omega)⟩
      unfold sArI
      rw [cx, cy]
      cases ins with
      | iand =>
        simp only
        by_cases c : g.1 = g.2 ∧ h.1 = h.2
        · rw [if_pos c]
          obtain ⟨k1, k2⟩ := k c
          simp only [arF]
          rw [k1, k2]
          exact ⟨Int.le_refl _, Int.le_refl _⟩
        · rw [if_neg c]
          by_cases c1 : 0 ≤ g.1
          · rw [if_pos c1]
            have a1 := ar_and (x := x) (y := y) (by omega)
            by_cases c2 : 0 ≤ h.1
            · rw [if_pos c2]
              have a2 := ar_and2 (x := x) (y := y) (by omega)
              have := iMin_le g.2 h.2
              simp only [arF]
              unfold iMin
              split <;> omega
            · rw [if_neg c2]
              simp only [arF]
              omega
          · rw [if_neg c1]
            by_cases c2 : 0 ≤ h.1
            · rw [if_pos c2]
              have a2 := ar_and2 (x := x) (y := y) (by omega)
              simp only [arF]
              omega
            · rw [if_neg c2]
              exact full
      | ior =>
        simp only
        by_cases c : g.1 = g.2 ∧ h.1 = h.2
        · rw [if_pos c]
          obtain ⟨k1, k2⟩ := k c
          simp only [arF]
          rw [k1, k2]
          exact ⟨Int.le_refl _, Int.le_refl _⟩
        · rw [if_neg c]
          exact full
      | ixor =>
        simp only
        by_cases c : g.1 = g.2 ∧ h.1 = h.2
        · rw [if_pos c]
          obtain ⟨k1, k2⟩ := k c
          simp only [arF]
          rw [k1, k2]
          exact ⟨Int.le_refl _, Int.le_refl _⟩
        · rw [if_neg c]
          exact full
      | ishl =>
        simp only
        by_cases c : g.1 = g.2 ∧ h.1 = h.2
        · rw [if_pos c]
          obtain ⟨k1, k2⟩ := k c
          simp only [arF]
          rw [k1, k2]
          exact ⟨Int.le_refl _, Int.le_refl _⟩
        · rw [if_neg c]
          by_cases c1 : 0 ≤ g.1 ∧ 0 ≤ h.1 ∧ h.2 ≤ 30 ∧ g.2 * 2 ^ h.2.toNat ≤ i32h
          · rw [if_pos c1]
            exact ar_shl (by omega) b1.2 (by omega) b2.2 c1.2.2.1 c1.2.2.2
          · rw [if_neg c1]
            exact full
      | ishr =>
        simp only
        by_cases c1 : 0 ≤ g.1
        · rw [if_pos c1]
          have := ar_shr (x := x) (y := y) (by omega)
          simp only [arF]
          omega
        · rw [if_neg c1]
          exact full
      | iushr =>
        simp only
        by_cases c1 : 0 ≤ g.1
        · rw [if_pos c1]
          have := ar_ushr (x := x) (y := y) (by omega)
          simp only [arF]
          omega
        · rw [if_neg c1]
          exact full
      | _ => exact full
theorem isK_ok {r : Nat → Int} {l : sL} {k : Int} (e : isK l = some k) : sEv r l = k := by
  unfold isK at e
  split at e
  · rename_i h
    cases e
    simp [sEv, h, sev]
  · cases e
theorem tdiv_nonpos' {a c : Int} (h : a ≤ 0) (hc : 0 < c) : a.tdiv c ≤ 0 := by
  have h1 : 0 ≤ (-a).tdiv c := Int.tdiv_nonneg (by omega) (by omega)
  rw [Int.neg_tdiv] at h1
  omega
theorem tdiv_mono {a b c : Int} (hc : 0 < c) (h : a ≤ b) : a.tdiv c ≤ b.tdiv c := by
  rcases Int.le_total 0 a with ha | ha
  · rw [Int.tdiv_eq_ediv_of_nonneg ha, Int.tdiv_eq_ediv_of_nonneg (by omega)]
    exact Int.ediv_le_ediv hc h
  · rcases Int.le_total 0 b with hb | hb
    · have h1 : 0 ≤ b.tdiv c := Int.tdiv_nonneg hb (by omega)
      have h2 : a.tdiv c ≤ 0 := tdiv_nonpos' ha (by omega)
      omega
    · have e1 : a.tdiv c = -((-a) / c) := by
        rw [← Int.tdiv_eq_ediv_of_nonneg (by omega), Int.neg_tdiv]
        omega
      have e2 : b.tdiv c = -((-b) / c) := by
        rw [← Int.tdiv_eq_ediv_of_nonneg (by omega), Int.neg_tdiv]
        omega
      have := Int.ediv_le_ediv hc (show -b ≤ -a by omega)
      omega
theorem x32_div {x y : Int32} (hy : 0 < y.toInt) : (x / y).toInt = x.toInt.tdiv y.toInt := _root_.Jvm.Kit.i32_div (fun q => by omega)
theorem tmod_nonpos' {a c : Int} (h : a ≤ 0) : a.tmod c ≤ 0 := by
  have h1 : 0 ≤ (-a).tmod c := Int.tmod_nonneg c (by omega)
  rw [Int.neg_tmod] at h1
  omega
theorem tdiv_abs {a c : Int} (hc : 0 < c) : (0 ≤ a → 0 ≤ a.tdiv c * c ∧ a.tdiv c * c ≤ a) ∧ (a ≤ 0 → a ≤ a.tdiv c * c ∧ a.tdiv c * c ≤ 0) := by
  have e := Int.tmod_def a c
  rw [Int.mul_comm] at e
  constructor
  · intro h
    have h1 := Int.tmod_nonneg c h
    have h2 : 0 ≤ a.tdiv c := Int.tdiv_nonneg h (by omega)
    have h3 := Int.mul_nonneg h2 (Int.le_of_lt hc)
    omega
  · intro h
    have h1 : a.tmod c ≤ 0 := tmod_nonpos' h
    have h2 : a.tdiv c ≤ 0 := tdiv_nonpos' h (by omega)
    have h3 := Int.mul_nonpos_of_nonpos_of_nonneg h2 (Int.le_of_lt hc)
    omega
theorem x32_rem {x y : Int32} (hy : 0 < y.toInt) : (x - x / y * y).toInt = x.toInt.tmod y.toInt := by
  have r1 := i32_range x
  unfold i32l i32h at r1
  have e := Int.tmod_def x.toInt y.toInt
  rw [Int.mul_comm] at e
  have d := tdiv_abs (a := x.toInt) hy
  have m : (x / y * y).toInt = x.toInt.tdiv y.toInt * y.toInt := by
    rw [_root_.Jvm.Kit.i32_mul, x32_div hy] <;> rw [x32_div hy] <;> rcases Int.le_total 0 x.toInt with h | h
    · have := d.1 h; omega
    · have := d.2 h; omega
    · have := d.1 h; omega
    · have := d.2 h; omega
  rw [_root_.Jvm.Kit.i32_sub, m]
  · omega
  · rw [m]
    rcases Int.le_total 0 x.toInt with h | h
    · have := d.1 h; omega
    · have := d.2 h; omega
  · rw [m]
    rcases Int.le_total 0 x.toInt with h | h
    · have := d.1 h; omega
    · have := d.2 h; omega
theorem tmod_iv {x c : Int} (hc : 0 < c) : -(c - 1) ≤ x.tmod c ∧ x.tmod c ≤ c - 1 ∧ (0 ≤ x → 0 ≤ x.tmod c ∧ x.tmod c ≤ x) := by
  have h := tmod_bounds (a := x) hc
  refine ⟨by omega, by omega, fun h0 => ?_⟩
  have h1 := Int.tmod_nonneg c h0
  have e := Int.tmod_def x c
  have h2 : 0 ≤ x.tdiv c := Int.tdiv_nonneg h0 (by omega)
  have h3 := Int.mul_nonneg (Int.le_of_lt hc) h2
  omega
theorem sRem_ok {P : sP} {S : sS} {r : Nat → Int} (hF : sFx P r S) {x' y' : sL} {x y : Int} (hx : x = sEv r x') (hy : y = sEv r y') {h : Int × Int} (e : sRem P S x' y' = some h) : 0 < y ∧ h.1 ≤ x.tmod y ∧ x.tmod y ≤ h.2 := by
  unfold sRem at e
  cases cx : sB P S.iv x' with
  | none => rw [cx] at e; cases e
  | some g =>
    rw [cx] at e
    cases cy : isK y' with
    | none => rw [cy] at e; cases e
    | some c =>
      rw [cy] at e
      simp only at e
      have b1 := sB_ok hF.1 hF.2.2 cx
      have ec : y = c := by rw [hy]; exact isK_ok cy
      subst ec
      by_cases hc : 0 < y
      · rw [if_pos hc] at e
        have t := tmod_iv (x := x) hc
        by_cases c1 : g.1 = g.2
        · rw [if_pos c1] at e
          cases e
          have : x = g.1 := by omega
          rw [this]
          exact ⟨hc, Int.le_refl _, Int.le_refl _⟩
        · rw [if_neg c1] at e
          by_cases c2 : 0 ≤ g.1
          · rw [if_pos c2] at e
            cases e
            have := t.2.2 (by omega)
            refine ⟨hc, by simp only; omega, ?_⟩
            simp only
            unfold iMin
            split <;> omega
          · rw [if_neg c2] at e
            cases e
            exact ⟨hc, t.1, t.2.1⟩
      · rw [if_neg hc] at e
        cases e
theorem sDiv_ok {P : sP} {S : sS} {r : Nat → Int} (hF : sFx P r S) {x' y' : sL} {x y : Int} (hx : x = sEv r x') (hy : y = sEv r y') {h : Int × Int} (e : sDiv P S x' y' = some h) : 0 < y ∧ h.1 ≤ x.tdiv y ∧ x.tdiv y ≤ h.2 := by
  unfold sDiv at e
  cases cx : sB P S.iv x' with
  | none => rw [cx] at e; cases e
  | some g =>
    rw [cx] at e
    cases cy : isK y' with
    | none => rw [cy] at e; cases e
    | some c =>
      rw [cy] at e
      simp only at e
      have b1 := sB_ok hF.1 hF.2.2 cx
      have ec : y = c := by rw [hy]; exact isK_ok cy
      subst ec
      by_cases hc : 0 < y
      · rw [if_pos hc] at e
        cases e
        exact ⟨hc, tdiv_mono hc (by omega), tdiv_mono hc (by omega)⟩
      · rw [if_neg hc] at e
        cases e
