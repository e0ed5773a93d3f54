/-! BY HAND: what a token is, what see() answers -/
set_option maxRecDepth 100000
theorem xok_me {F : Nat → Int → gM → Int} {av : List gV} {mu mu' : gM} {x : sX} {ret : Option gV} (hx : sXOK 3748 kP F av mu x ret mu') (h : x.2.1 = []) : mu' = mu := by
  obtain ⟨rho, -, -, -, hm, -, -⟩ := hx
  funext p
  have := hm p
  rw [h] at this
  exact this
def mFld (i : Nat) (z : gF) : Bool := match aFind kEX12.F i, gAt kGb 166 with
  | some cf, some (.inl (ci, fs)) => Nat.beq cf.1 ci && decide (fs[cf.2.1]? = some z)
  | _, _ => false
/-- a frame of a method of the reference -/
def mF (X : gX) (C : sCode) : Prop := gOK X ∧ sEnvK X kEX12 ∧ gXG X = kG ∧ ∀ p q, cAt C p = some q → decode (gXy X) p = .ok q
theorem m_get {X : gX} {C : sCode} {pc : Nat} {lv : List (Nat × gV)} {st : List gV} {mu : gM} {z : gF} {i : Nat} (Y : mF X C) (hz : mFld i z = true) (hc : cAt C pc = some (.getfield i, 3)) (kk : gG X (pc + 3) lv ((match z with | .inl p => gI (Int32.ofInt (mu p)) | .inr j => gR j) :: st) mu) : gG X pc lv (gR 166 :: st) mu := by
  obtain ⟨h, hK, hG, hC⟩ := Y
  unfold mFld at hz
  split at hz
  · rename_i cf ci fs e1 e2
    simp only [Bool.and_eq_true, Nat.beq_eq, decide_eq_true_eq] at hz
    obtain ⟨z1, z2⟩ := hz
    obtain ⟨C', T, N, k1, k2, k3, -⟩ := hK.2.2.2 i cf e1
    rw [chkG_ok kg1] at e2
    rw [z1] at k1
    rcases z with p | j
    · exact g_getfield h k1 k2 (by rw [hG]; exact e2) z2 k3 (hC _ _ hc) kk
    · exact g_getfield h k1 k2 (by rw [hG]; exact e2) z2 k3 (hC _ _ hc) kk
  · cases hz
theorem mF.of {X : gX} {adV : Nat → Nat} {l : Launch} {d : Nat} {y : MethodName} {cb : ByteArray} {maxL : Nat} {ret : Option FieldType} {Post : Option gV → gM → Prop} (hI : gIn X adV l d y cb maxL ret kG Post) {C : sCode} (hw : chkW y.cls kEX12 = true) (hk : chkK cb maxL C = true) : mF X C := by
  have hk2 := chkK_ok (X := X) (C := C) (by rw [hI.2.2.2.2.2.1, hI.2.2.2.2.2.2.1]; exact hk)
  exact ⟨hI.1, chk_envK hI.2.1 gclAll (by rw [hI.2.2.2.2.2.2.2.1]; exact hw), hI.2.2.2.2.1, hk2.1⟩
/-- a call of the reference's own -/
theorem m_call {X : gX} {C : sCode} {adV : Nat → Nat} {d d' idx maxL n : Nat} {y : MethodName} {cb : ByteArray} {ret : Option FieldType} {Post : Option gV → gM → Prop} {lv : List (Nat × gV)} {as st st0 : List gV} {mu : gM} {pc : Nat} (Y : mF X C) (hOE : gOE X adV) (hrm : gRm X d) (hdd : d' < d)
    (hM : gMet (gXl X) d' y cb maxL ret kG (gR 166 :: as) mu Post) (hy : y.cls = RX12) (hcw : gcw (gXo X) idx y cb maxL ret n) (hl1 : Cond.methodLink (gXo X) idx y ∈ TW) (hl2 : Cond.instanceMethod y ∈ TW) (hl3 : Cond.selects y.cls y y ∈ TW)
    (hs : st0 = as.reverse ++ gR 166 :: st) (hn : as.length = n) (hroom : (st.map gcat).sum ≤ 8) (hd : cAt C pc = some (.invokevirtual idx, 3))
    (kk : ∀ (r : Option gV) (mu' : gM), Post r mu' → gG X (pc + 3) lv (r.toList ++ st) mu') : gG X pc lv st0 mu := by
  subst hs
  obtain ⟨h, hK, hG, hC⟩ := Y
  have hcell : ∃ fs, kG[166]? = some (.inl (12, fs)) := ⟨_, (rfl : kG[166]? = some (.inl (12, _)))⟩
  obtain ⟨fs, hfs⟩ := hcell
  exact g_invokevirtual h hOE hrm hdd (by rw [hG]; exact hM) hcw hl1 hl2 hl3 (by rw [hG]; exact hfs) (T := TX12) (N := 36) (by rw [hy]; exact gcl12.1) hn hroom (hC _ _ hd) kk
theorem i32_of {n : Int} (h1 : -2147483648 ≤ n) (h2 : n ≤ 2147483647) : (Int32.ofInt n).toInt = n := Int32.toInt_ofInt_of_le (by omega) (by omega)
theorem prof_at {mu : gM} (hp : gProf kP mu) (p : Nat) {lo hi : Int} (e : spAt kP p = some (lo, hi)) : lo ≤ mu p ∧ mu p ≤ hi := hp p _ e
theorem sR0_lo {F : Nat → Int → gM → Int} {av : List gV} {mu : gM} {k : Nat} (h : k < 3748) : sR0 3748 F av mu k = mu k := if_pos h
theorem tape_pr : ∀ i, i < 800 → spAt kP (2460 + i) = some (-128, 127) := by decide +kernel
/-- is the token string j -/
def isJ (j : Nat) (mu : gM) : Int := if mu 2041 = 0 ∧ mu 2039 = 1 ∧ mu 2037 - mu 2038 = (gLen.getD j 0 : Nat) ∧ ∀ k, k < gLen.getD j 0 → (if (mu 2038).toNat + k < 800 then mu (2460 + ((mu 2038).toNat + k)) else 0) = (chJ j k).toInt then 1 else 0
/-- what see(i) answers -/
def seeF (i : Int) (mu : gM) : Int := if i < mu 2036 then (if 0 ≤ i ∧ i < 800 then ((Int32.ofInt (mu (2460 + i.toNat))) &&& (Int16.ofInt 255).toInt32).toInt else 0) else -1
/-- what is known of the memory beside its places -/
def kF (a : Nat) (b : Int) (mu : gM) : Int := if a = 2000000 then seeF b mu else if a < 2000000 then isJ (a - 1000000) mu else 0
theorem kF_is (j : Nat) (hj : j < 1000) (mu : gM) : kF (sGk j) 0 mu = isJ j mu := by
  unfold kF sGk
  rw [if_neg (by omega), if_pos (by omega), show 1000000 + j - 1000000 = j by omega]
theorem kF_01 (mu : gM) (j : Nat) (hj : j ∈ sGh) : 0 ≤ kF (sGk j) 0 mu ∧ kF (sGk j) 0 mu ≤ 1 := by
  rw [kF_is j (by
    simp only [sGh, List.mem_cons, List.not_mem_nil, or_false] at hj
    omega)]
  unfold isJ
  split <;> omega
theorem isJ_up {mu : gM} {p : Nat} {v : Int} (hq : ∀ q ∈ kDG, p < q.1 ∨ q.2 < p) (j : Nat) : isJ j (gup mu p v) = isJ j mu := by
  have h1 := hq (2460, 3259) (by decide)
  have h2 := hq (2039, 2039) (by decide)
  have h3 := hq (2038, 2038) (by decide)
  have h4 := hq (2037, 2037) (by decide)
  have h5 := hq (2041, 2041) (by decide)
  have e2 : gup mu p v 2039 = mu 2039 := gup_n (by simp only at h2; omega)
  have e3 : gup mu p v 2038 = mu 2038 := gup_n (by simp only at h3; omega)
  have e4 : gup mu p v 2037 = mu 2037 := gup_n (by simp only at h4; omega)
  have e5 : gup mu p v 2041 = mu 2041 := gup_n (by simp only at h5; omega)
  have e1 : ∀ k, (if (mu 2038).toNat + k < 800 then gup mu p v (2460 + ((mu 2038).toNat + k)) else 0) = (if (mu 2038).toNat + k < 800 then mu (2460 + ((mu 2038).toNat + k)) else 0) := fun k => by
    split
    · rw [gup_n (by simp only at h1; omega)]
    · rfl
  unfold isJ
  simp only [e2, e3, e4, e5, e1]
theorem kF_env (E : sE) (h1 : E.DG = kDG) (h2 : E.DS = kDS) : sEnvF E kF := by
  refine ⟨fun key i mu p v k1 k2 hq => ?_, fun key i mu p v k1 hq => ?_⟩
  · rw [h1] at hq
    unfold kF
    have n1 : ¬ key = 2000000 := by omega
    rw [if_neg n1, if_neg n1, if_pos k2, if_pos k2]
    exact isJ_up hq _
  · rw [h2] at hq
    have q1 := hq (2460, 3259) (by decide)
    have q2 := hq (2036, 2036) (by decide)
    unfold kF
    by_cases c : key = 2000000
    · rw [if_pos c, if_pos c]
      unfold seeF
      rw [gup_n (by simp only at q2; omega)]
      split
      · split
        · rw [gup_n (by simp only at q1; omega)]
        · rfl
      · rfl
    · have n2 : ¬ key < 2000000 := by omega
      rw [if_neg c, if_neg c, if_neg n2, if_neg n2]
def kSee : sC := ([.inr (.inr (some 166)), .inl (0, 999)], [], [2036], [(some (.inl (.inl (-1, []))), [], [], [(0, [(2036, 1), (3749, -1)])], 0), (some (.inl (.inl (0, [(3764, 1)]))), [], [(3764, 0, 255), (2036, 1, 800), (3749, 0, 799)], [(1, [(2036, -1), (3749, 1)])], 1)])
theorem see_ok (l : Launch) (d : Nat) : cMetQ l d yX12_see cX12_see 2 (some .int) kG kP kF 3748 (sSeeQ kF) kSee := by
  intro av mu ha hp hpre
  rcases av with _ | ⟨(x | x) | x, _ | ⟨(z | z) | z, _ | ⟨w, av⟩⟩⟩
  all_goals first | exact ha.elim | exact ha.2.elim | exact ha.2.2.elim | skip
  obtain ⟨rfl, ⟨h1, h2⟩, -⟩ := ha
  simp only at h1 h2
  refine gMet.of (by decide) (show 1 + (1 + 0) ≤ 2 by decide) (fun X adV hI => ?_)
  have Y := mF.of hI (C := kkX12_see) kwX12 kdX12_see
  obtain ⟨h, hK, hG, hC⟩ := id Y
  have hk : ∀ (r : Nat) (c : gC), kG[r]? = some c → (gXG X)[r]? = some c := fun r c e => by rw [hG]; exact e
  obtain ⟨s1, s2⟩ := prof_at hp 2036 (lo := 0) (hi := 800) (by decide +kernel)
  have es : (Int32.ofInt (mu 2036)).toInt = mu 2036 := i32_of (by omega) (by omega)
  have hkF : ∀ i, kF 2000000 i mu = seeF i mu := fun _ => rfl
  refine g_iload_n (pc := 0) (x := z) h (hC 0 (.iload_n 1, 1) rfl) (List.mem_cons_of_mem _ List.mem_cons_self) ?_
  refine g_aload_n (pc := 1) (o := some 166) h (hC 1 (.aload_n 0, 1) rfl) (List.mem_cons_self) ?_
  refine m_get (pc := 2) (i := 87) (z := .inl 2036) Y (by decide +kernel) rfl ?_
  refine g_icmp (pc := 5) (tgt := 21) h (hC 5 (.if_icmp .ge 16, 3) rfl) (by decide) (fun q => ?_) (fun q => ?_)
  · have q : (Int32.ofInt (mu 2036)) ≤ z := q
    rw [Int32.le_iff_toInt_le, es] at q
    refine g_iconst (pc := 21) h (hC 21 (.iconst (-1), 1) rfl) ?_
    have hr : Int32.ofInt (-1) = -1 := rfl
    refine g_ireturn (pc := 22) hI rfl (hC 22 (.ireturn, 1) rfl) ⟨⟨_, List.mem_cons_self, sR0 3748 kF _ mu, sR0_ok 3748 kF _ mu (sAg.rf _ _), (by decide : (Int32.ofInt (-1)).toInt = -1 + 0), hp, fun p => rfl, fun q hq => absurd hq List.not_mem_nil, math_li1 ?_⟩, rfl, _, z, _, rfl, rfl, ?_⟩
    · show 0 + (1 * sR0 3748 kF [gR 166, gI z] mu 2036 + (-1 * sR0 3748 kF [gR 166, gI z] mu 3749 + 0)) ≤ 0
      rw [math_a1, sR0_lo (by omega)]
      omega
    · rw [hkF]
      unfold seeF
      rw [if_neg (by omega)]
      decide
  · have q : ¬ (Int32.ofInt (mu 2036)) ≤ z := q
    rw [Int32.le_iff_toInt_le, es] at q
    have hin : vp_in z 800 := by
      rintro (q1 | q1)
      · rw [Int32.lt_iff_toInt_lt, Int32.toInt_zero] at q1
        omega
      · have : z.toNatClampNeg = z.toInt.toNat := rfl
        omega
    refine g_aload_n (pc := 8) (o := some 166) h (hC 8 (.aload_n 0, 1) rfl) (List.mem_cons_self) ?_
    refine m_get (pc := 9) (i := 20) (z := .inr 170) Y (by decide +kernel) rfl ?_
    refine g_iload_n (pc := 12) (x := z) h (hC 12 (.iload_n 1, 1) rfl) (List.mem_cons_of_mem _ List.mem_cons_self) ?_
    refine g_baload (pc := 13) (k := 170) (b := 2460) (n := 800) (i := z) h (hk 170 (.inr (.inl (1, 2460, 800))) rfl) hin (hC 13 (.baload, 1) rfl) ?_
    refine g_sipush (pc := 14) h (hC 14 (.sipush 255, 3) rfl) ?_
    refine g_iand (pc := 17) h (hC 17 (.iand, 1) rfl) ?_
    refine g_goto (pc := 18) (tgt := 22) h (hC 18 (.goto 4, 3) rfl) (by decide) ?_
    have e1 : z.toNatClampNeg = z.toInt.toNat := rfl
    obtain ⟨b1, b2⟩ := ar_and2 (x := Int32.ofInt (mu (2460 + z.toNatClampNeg))) (y := (Int16.ofInt 255).toInt32) (by decide)
    have e255 : ((Int16.ofInt 255).toInt32).toInt = 255 := by decide
    rw [e255] at b2
    refine g_ireturn (pc := 22) hI rfl (hC 22 (.ireturn, 1) rfl) ⟨⟨_, List.mem_cons_of_mem _ List.mem_cons_self, sUp (sR0 3748 kF [gR 166, gI z] mu) 3764 ((Int32.ofInt (mu (2460 + z.toNatClampNeg))) &&& (Int16.ofInt 255).toInt32).toInt, sR0_ok 3748 kF _ mu (fun i hi => if_neg (by omega)), ?_, hp, fun p => rfl, fun r hr => ?_, math_li1 ?_⟩, rfl, _, z, _, rfl, rfl, ?_⟩
    · show ((Int32.ofInt (mu (2460 + z.toNatClampNeg))) &&& (Int16.ofInt 255).toInt32).toInt = 0 + (1 * sUp _ 3764 _ 3764 + 0)
      rw [sUp_s]
      omega
    · simp only [List.mem_cons, List.not_mem_nil, or_false] at hr
      rcases hr with rfl | rfl | rfl
      · show 0 ≤ sUp _ 3764 _ 3764 ∧ sUp _ 3764 _ 3764 ≤ 255
        rw [sUp_s]
        exact ⟨b1, b2⟩
      · show 1 ≤ sUp _ 3764 _ 2036 ∧ sUp _ 3764 _ 2036 ≤ 800
        have : sUp (sR0 3748 kF [gR 166, gI z] mu) 3764 ((Int32.ofInt (mu (2460 + z.toNatClampNeg))) &&& (Int16.ofInt 255).toInt32).toInt 2036 = mu 2036 := (if_neg (by omega)).trans (sR0_lo (by omega))
        rw [this]
        omega
      · show 0 ≤ sUp _ 3764 _ 3749 ∧ sUp _ 3764 _ 3749 ≤ 799
        have : sUp (sR0 3748 kF [gR 166, gI z] mu) 3764 ((Int32.ofInt (mu (2460 + z.toNatClampNeg))) &&& (Int16.ofInt 255).toInt32).toInt 3749 = z.toInt := (if_neg (by omega)).trans math_a1
        rw [this]
        omega
    · show 1 + (-1 * sUp _ 3764 _ 2036 + (1 * sUp _ 3764 _ 3749 + 0)) ≤ 0
      have e3 : sUp (sR0 3748 kF [gR 166, gI z] mu) 3764 ((Int32.ofInt (mu (2460 + z.toNatClampNeg))) &&& (Int16.ofInt 255).toInt32).toInt 2036 = mu 2036 := (if_neg (by omega)).trans (sR0_lo (by omega))
      have e4 : sUp (sR0 3748 kF [gR 166, gI z] mu) 3764 ((Int32.ofInt (mu (2460 + z.toNatClampNeg))) &&& (Int16.ofInt 255).toInt32).toInt 3749 = z.toInt := (if_neg (by omega)).trans math_a1
      rw [e3, e4]
      omega
    · rw [hkF]
      unfold seeF
      rw [if_pos (by omega), if_pos (by omega)]
      rfl
theorem good_ok (l : Launch) (d : Nat) (mu : gM) (hp : gProf kP mu) : gMet l d yX12_good cX12_good 1 (some .boolean) kG [gR 166] mu (fun r mu' => r = some (gI (if mu 2041 = 0 then 1 else 0)) ∧ mu' = mu) := by
  refine gMet.of (by decide) (by decide) (fun X adV hI => ?_)
  have Y := mF.of hI (C := kkX12_good) kwX12 kdX12_good
  obtain ⟨h, hK, hG, hC⟩ := id Y
  obtain ⟨s1, s2⟩ := prof_at hp 2041 (lo := 0) (hi := 3) (by decide +kernel)
  have es : (Int32.ofInt (mu 2041)).toInt = mu 2041 := i32_of (by omega) (by omega)
  refine g_aload_n (pc := 0) (o := some 166) h (hC 0 (.aload_n 0, 1) rfl) (List.mem_cons_self) ?_
  refine m_get (pc := 1) (i := 121) (z := .inl 2041) Y (by decide +kernel) rfl ?_
  refine g_if (pc := 4) (tgt := 11) h (hC 4 (.ifCond .ne 7, 3) rfl) (by decide) (fun q => ?_) (fun q => ?_)
  · have q : ¬ Int32.ofInt (mu 2041) = 0 := q
    have q2 : ¬ mu 2041 = 0 := fun z => q (by rw [z]; rfl)
    refine g_iconst (pc := 11) h (hC 11 (.iconst 0, 1) rfl) ?_
    exact g_ireturn (pc := 12) hI rfl (hC 12 (.ireturn, 1) rfl) ⟨by rw [if_neg q2]; rfl, rfl⟩
  · have q : ¬ ¬ Int32.ofInt (mu 2041) = 0 := q
    have q2 : mu 2041 = 0 := by
      have := congrArg Int32.toInt (Classical.not_not.mp q)
      rw [es] at this
      exact this
    refine g_iconst (pc := 7) h (hC 7 (.iconst 1, 1) rfl) ?_
    refine g_goto (pc := 8) (tgt := 12) h (hC 8 (.goto 4, 3) rfl) (by decide) ?_
    exact g_ireturn (pc := 12) hI rfl (hC 12 (.ireturn, 1) rfl) ⟨by rw [if_pos q2]; rfl, rfl⟩
def kIs (t : Nat) : sC := ([.inr (.inr (some 166)), .inr (.inr (some (1000 + sGh.getD t 0)))], [], [3757 + t], [(some (.inl (.inl (0, [(3757 + t, 1)]))), [], [], [], 0)])
theorem is_ok (l : Launch) (d : Nat) (hd5 : 5 ≤ d) (t : Nat) (ht : t < 3) : cMet l d yX12_is cX12_is 4 (some .boolean) kG kP kF 3748 (kIs t) := by
  intro av mu ha hp hpre
  have hj : sGh.getD t 0 < 14 := by
    rcases (show t = 0 ∨ t = 1 ∨ t = 2 by omega) with rfl | rfl | rfl <;> decide
  have hjm : sGh[t]? = some (sGh.getD t 0) := by
    rcases (show t = 0 ∨ t = 1 ∨ t = 2 by omega) with rfl | rfl | rfl <;> rfl
  unfold kIs at ha
  generalize hjj : sGh.getD t 0 = j at ha hj hjm
  rcases av with _ | ⟨(x | x) | x, _ | ⟨(z | z) | z, _ | ⟨w, av⟩⟩⟩
  all_goals first | exact ha.elim | exact ha.2.elim | exact ha.2.2.elim | skip
  obtain ⟨rfl, rfl, -⟩ := ha
  have h10 := lenJ_ok j hj
  have post : ∀ z : Int32, z.toInt = isJ j mu → cPost 3748 kP kF (kIs t) [gR 166, gR (1000 + j)] mu (some (gI z)) mu := fun z hz => by
    refine ⟨_, List.mem_cons_self, sR0 3748 kF [gR 166, gR (1000 + j)] mu, sR0_ok 3748 kF _ mu (sAg.rf _ _), ?_, hp, fun p => rfl, fun q hq => absurd hq List.not_mem_nil, fun q hq => absurd hq List.not_mem_nil⟩
    have e : sR0 3748 kF [gR 166, gR (1000 + j)] mu (3757 + t) = isJ j mu := by
      unfold sR0
      rw [if_neg (by omega), if_neg (by omega), show 3757 + t - (3748 + 9) = t by omega, hjm]
      exact kF_is j (by omega) mu
    show z.toInt = 0 + (1 * sR0 3748 kF [gR 166, gR (1000 + j)] mu (3757 + t) + 0)
    rw [e]
    omega
  refine gMet.of (by decide) (show 1 + (1 + 0) ≤ 4 by omega) (fun X adV hI => ?_)
  have Y := mF.of hI (C := kkX12_is) kwX12 kdX12_is
  have hI' := hI
  obtain ⟨-, hOE, hl, hR, -, -, hn, ho, -, -, -, hA⟩ := hI'
  obtain ⟨h, hK, hG, hC⟩ := id Y
  have hrm : gRm X d := .inl hR
  have hk : ∀ (r : Nat) (c : gC), kG[r]? = some c → (gXG X)[r]? = some c := fun r c e => by rw [hG]; exact e
  have hN2 : ((2 : Fin 4) : Nat) < gXn X := by rw [hn]; decide
  have hN3 : ((3 : Fin 4) : Nat) < gXn X := by rw [hn]; decide
  have hN3' : 3 < gXn X := by rw [hn]; decide
  obtain ⟨s1, s2⟩ := prof_at hp 2037 (lo := 0) (hi := 800) (by decide +kernel)
  obtain ⟨s3, s4⟩ := prof_at hp 2038 (lo := 0) (hi := 800) (by decide +kernel)
  obtain ⟨s5, s6⟩ := prof_at hp 2039 (lo := 0) (hi := 4) (by decide +kernel)
  have e1 : (Int32.ofInt (mu 2037)).toInt = mu 2037 := i32_of (by omega) (by omega)
  have e2 : (Int32.ofInt (mu 2038)).toInt = mu 2038 := i32_of (by omega) (by omega)
  have e3 : (Int32.ofInt (mu 2039)).toInt = mu 2039 := i32_of (by omega) (by omega)
  have elen : (nI (gLen.getD j 0)).toInt = ((gLen.getD j 0 : Nat) : Int) := nI_toInt (by omega)
  have hlenW : lenW (gXo X) 128 := by rw [ho]; exact tw 1366 rfl rfl
  have hchaW : chaW (gXo X) 133 := by rw [ho]; exact tw 1367 rfl rfl
  have fin : ∀ (z : Int32) (lv : List (Nat × gV)), (((2 : Fin 4) : Nat), gI z) ∈ lv → z.toInt = isJ j mu → (z = 0 ∨ z = 1) → gG X 82 lv [] mu := fun z lv hm hz h01 => by
    refine g_iload_n (pc := 82) (x := z) h (hC 82 (.iload_n 2, 1) rfl) hm ?_
    refine g_ireturn (pc := 83) hI ?_ (hC 83 (.ireturn, 1) rfl) (post z hz)
    rcases h01 with rfl | rfl <;> rfl
  -- behind the loop's first test, false: the answer is 0
  have no : ∀ k, k ≤ gLen.getD j 0 → isJ j mu = 0 → gG X 39 [(3, gI (nI k)), (2, gI 0), (0, gR 166), (1, gR (1000 + j))] [] mu := fun k hk0 hz => by
    refine g_iload_n (pc := 39) (x := (nI k)) h (hC 39 (.iload_n 3, 1) rfl) (List.mem_cons_self) ?_
    refine g_aload_n (pc := 40) (o := some (1000 + j)) h (hC 40 (.aload_n 1, 1) rfl) (List.mem_cons_of_mem _ (List.mem_cons_of_mem _ (List.mem_cons_of_mem _ List.mem_cons_self))) ?_
    refine g_length (pc := 41) (d := d) (sv := [gI (nI k)]) h hOE hA hG hrm (by omega) hlenW hj (show 1 + 0 ≤ 8 by decide) (hC 41 (.invokevirtual 128, 3) rfl) ?_
    refine g_icmp (pc := 44) (tgt := 82) h (hC 44 (.if_icmp .ge 38, 3) rfl) (by decide) (fun _ => fin 0 _ (by simp) (by rw [hz]; rfl) (.inl rfl)) (fun _ => ?_)
    refine g_iload_n (pc := 47) (x := 0) h (hC 47 (.iload_n 2, 1) rfl) (by simp) ?_
    exact g_if (pc := 48) (tgt := 82) h (hC 48 (.ifCond .eq 34, 3) rfl) (by decide) (fun _ => fin 0 _ (by simp) (by rw [hz]; rfl) (.inl rfl)) (fun q => absurd rfl q)
  have no0 : isJ j mu = 0 → gG X 35 [(0, gR 166), (1, gR (1000 + j))] [] mu := fun hz => by
    refine g_iconst (pc := 35) h (hC 35 (.iconst 0, 1) rfl) ?_
    refine g_istore_n (pc := 36) h (hC 36 (.istore_n 2, 1) rfl) hN2 ?_
    refine g_iconst (pc := 37) h (hC 37 (.iconst 0, 1) rfl) ?_
    refine g_istore_n (pc := 38) h (hC 38 (.istore_n 3, 1) rfl) hN3 ?_
    exact no 0 (Nat.zero_le _) hz
  -- the loop while all is alike
  have yes : mu 2041 = 0 → mu 2039 = 1 → mu 2037 - mu 2038 = (gLen.getD j 0 : Nat) → ∀ n k, k + n = gLen.getD j 0 → (∀ i, i < k → mu (2460 + ((mu 2038).toNat + i)) = (chJ j i).toInt) → gG X 39 [(3, gI (nI k)), (2, gI 1), (0, gR 166), (1, gR (1000 + j))] [] mu := by
    intro c1 c2 c3 n
    induction n with
    | zero =>
      intro k hkn hall
      have hz : isJ j mu = 1 := by
        unfold isJ
        refine if_pos ⟨c1, c2, c3, fun i hi => ?_⟩
        rw [if_pos (by omega)]
        exact hall i (by omega)
      refine g_iload_n (pc := 39) (x := (nI k)) h (hC 39 (.iload_n 3, 1) rfl) (List.mem_cons_self) ?_
      refine g_aload_n (pc := 40) (o := some (1000 + j)) h (hC 40 (.aload_n 1, 1) rfl) (List.mem_cons_of_mem _ (List.mem_cons_of_mem _ (List.mem_cons_of_mem _ List.mem_cons_self))) ?_
      refine g_length (pc := 41) (d := d) (sv := [gI (nI k)]) h hOE hA hG hrm (by omega) hlenW hj (show 1 + 0 ≤ 8 by decide) (hC 41 (.invokevirtual 128, 3) rfl) ?_
      refine g_icmp (pc := 44) (tgt := 82) h (hC 44 (.if_icmp .ge 38, 3) rfl) (by decide) (fun _ => fin 1 _ (by simp) (by rw [hz]; rfl) (.inr rfl)) (fun q => absurd ?_ q)
      show nI (gLen.getD j 0) ≤ nI k
      rw [Int32.le_iff_toInt_le, elen, nI_toInt (by omega)]
      omega
    | succ n ih =>
      intro k hkn hall
      refine g_iload_n (pc := 39) (x := (nI k)) h (hC 39 (.iload_n 3, 1) rfl) (List.mem_cons_self) ?_
      refine g_aload_n (pc := 40) (o := some (1000 + j)) h (hC 40 (.aload_n 1, 1) rfl) (List.mem_cons_of_mem _ (List.mem_cons_of_mem _ (List.mem_cons_of_mem _ List.mem_cons_self))) ?_
      refine g_length (pc := 41) (d := d) (sv := [gI (nI k)]) h hOE hA hG hrm (by omega) hlenW hj (show 1 + 0 ≤ 8 by decide) (hC 41 (.invokevirtual 128, 3) rfl) ?_
      refine g_icmp (pc := 44) (tgt := 82) h (hC 44 (.if_icmp .ge 38, 3) rfl) (by decide) (fun q => ?_) (fun _ => ?_)
      · exfalso
        have q : nI (gLen.getD j 0) ≤ nI k := q
        rw [Int32.le_iff_toInt_le, elen, nI_toInt (by omega)] at q
        omega
      refine g_iload_n (pc := 47) (x := 1) h (hC 47 (.iload_n 2, 1) rfl) (by simp) ?_
      refine g_if (pc := 48) (tgt := 82) h (hC 48 (.ifCond .eq 34, 3) rfl) (by decide) (fun q => absurd (show (1 : Int32) = 0 from q) (by decide)) (fun _ => ?_)
      have efk : Int32.ofInt (mu 2038) + nI k = nI ((mu 2038).toNat + k) := by
        rw [← Int32.toInt_inj, Int32.toInt_add, e2, nI_toInt (by omega), nI_toInt (by omega), Int.bmod_eq_of_le (by omega) (by omega)]
        omega
      refine g_aload_n (pc := 51) (o := some 166) h (hC 51 (.aload_n 0, 1) rfl) (List.mem_cons_of_mem _ (List.mem_cons_of_mem _ List.mem_cons_self)) ?_
      refine m_get (pc := 52) (i := 20) (z := .inr 170) Y (by decide +kernel) rfl ?_
      refine g_aload_n (pc := 55) (o := some 166) h (hC 55 (.aload_n 0, 1) rfl) (List.mem_cons_of_mem _ (List.mem_cons_of_mem _ List.mem_cons_self)) ?_
      refine m_get (pc := 56) (i := 97) (z := .inl 2038) Y (by decide +kernel) rfl ?_
      refine g_iload_n (pc := 59) (x := (nI k)) h (hC 59 (.iload_n 3, 1) rfl) (List.mem_cons_self) ?_
      refine g_iadd (pc := 60) h (hC 60 (.iadd, 1) rfl) ?_
      rw [efk]
      refine g_baload (pc := 61) (k := 170) (b := 2460) (n := 800) h (hk 170 (.inr (.inl (1, 2460, 800))) rfl) (vp_in_nI (by omega) (by decide)) (hC 61 (.baload, 1) rfl) ?_
      rw [nI_clamp (by omega)]
      refine g_aload_n (pc := 62) (o := some (1000 + j)) h (hC 62 (.aload_n 1, 1) rfl) (by simp) ?_
      refine g_iload_n (pc := 63) (x := nI k) h (hC 63 (.iload_n 3, 1) rfl) List.mem_cons_self ?_
      refine g_charAt (pc := 64) (d := d) h hOE hA hG hrm (by omega) hchaW hj (show k < gLen.getD j 0 by omega) (show 1 + 0 ≤ 8 by decide) (hC 64 (.invokevirtual 133, 3) rfl) ?_
      obtain ⟨t1, t2⟩ := prof_at hp _ (tape_pr ((mu 2038).toNat + k) (by omega))
      have et : (Int32.ofInt (mu (2460 + ((mu 2038).toNat + k)))).toInt = mu (2460 + ((mu 2038).toNat + k)) := i32_of (by omega) (by omega)
      refine g_icmp (pc := 67) (tgt := 74) h (hC 67 (.if_icmp .ne 7, 3) rfl) (by decide) (fun q => ?_) (fun q => ?_)
      · have q : ¬ Int32.ofInt (mu (2460 + ((mu 2038).toNat + k))) = chJ j k := q
        have hz : isJ j mu = 0 := by
          unfold isJ
          refine if_neg (fun ⟨_, _, _, w⟩ => q ?_)
          have w := w k (by omega)
          rw [if_pos (by omega)] at w
          rw [← Int32.toInt_inj, et]
          exact w
        refine g_iconst (pc := 74) h (hC 74 (.iconst 0, 1) rfl) ?_
        refine g_istore_n (pc := 75) h (hC 75 (.istore_n 2, 1) rfl) hN2 ?_
        show gG X 76 [(2, gI 0), (3, gI (nI k)), (0, gR 166), (1, gR (1000 + j))] [] mu
        refine g_iinc (pc := 76) (x := nI k) h (hC 76 (.iinc 3 1, 3) rfl) (by simp) hN3' ?_
        rw [show nI k + Int32.ofInt 1 = nI (k + 1) from nI_add k 1]
        refine g_goto (pc := 79) (tgt := 39) h (hC 79 (.goto (-40), 3) rfl) (by decide) ?_
        exact no (k + 1) (by omega) hz
      · have q : ¬ ¬ Int32.ofInt (mu (2460 + ((mu 2038).toNat + k))) = chJ j k := q
        have q2 := Classical.not_not.mp q
        refine g_iconst (pc := 70) h (hC 70 (.iconst 1, 1) rfl) ?_
        refine g_goto (pc := 71) (tgt := 75) h (hC 71 (.goto 4, 3) rfl) (by decide) ?_
        refine g_istore_n (pc := 75) h (hC 75 (.istore_n 2, 1) rfl) hN2 ?_
        show gG X 76 [(2, gI 1), (3, gI (nI k)), (0, gR 166), (1, gR (1000 + j))] [] mu
        refine g_iinc (pc := 76) (x := nI k) h (hC 76 (.iinc 3 1, 3) rfl) (by simp) hN3' ?_
        rw [show nI k + Int32.ofInt 1 = nI (k + 1) from nI_add k 1]
        refine g_goto (pc := 79) (tgt := 39) h (hC 79 (.goto (-40), 3) rfl) (by decide) ?_
        refine ih (k + 1) (by omega) (fun i hi => ?_)
        by_cases ik : i = k
        · subst ik
          rw [← et, q2]
        · exact hall i (by omega)
  refine g_aload_n (pc := 0) (o := some 166) h (hC 0 (.aload_n 0, 1) rfl) List.mem_cons_self ?_
  refine m_call (pc := 1) (d := d) (d' := 0) (as := []) (st := []) (idx := 124) (n := 0) Y hOE hrm (by omega) (good_ok _ 0 mu hp) rfl ⟨fun w hw => ?_, by decide, by decide⟩ (by rw [ho]; exact tw 1345 rfl rfl) (tw 1347 rfl rfl) (TW_in (List.mem_append_left _ (List.mem_of_getElem? (i := 46) rfl)) rfl) rfl rfl (by decide) rfl (fun r mu' hr => ?_)
  · simp only [List.mem_cons, List.not_mem_nil, or_false] at hw
    rcases hw with rfl | rfl
    · exact tw 1348 rfl rfl
    · exact tw 13 rfl rfl
  obtain ⟨rfl, rfl⟩ := hr
  show gG X 4 [(0, gR 166), (1, gR (1000 + j))] [gI (if mu' 2041 = 0 then 1 else 0)] mu'
  refine g_if (pc := 4) (tgt := 35) h (hC 4 (.ifCond .eq 31, 3) rfl) (by decide) (fun q => ?_) (fun q => ?_)
  · refine no0 (if_neg (fun ⟨w, _⟩ => ?_))
    have q : (if mu' 2041 = 0 then (1 : Int32) else 0) = 0 := q
    rw [if_pos w] at q
    exact absurd q (by decide)
  have q : ¬ (if mu' 2041 = 0 then (1 : Int32) else 0) = 0 := q
  have c1 : mu' 2041 = 0 := Classical.byContradiction fun w => q (if_neg w)
  refine g_aload_n (pc := 7) (o := some 166) h (hC 7 (.aload_n 0, 1) rfl) (List.mem_cons_self) ?_
  refine m_get (pc := 8) (i := 100) (z := .inl 2039) Y (by decide +kernel) rfl ?_
  refine g_iconst (pc := 11) h (hC 11 (.iconst 1, 1) rfl) ?_
  refine g_icmp (pc := 12) (tgt := 35) h (hC 12 (.if_icmp .ne 23, 3) rfl) (by decide) (fun q => ?_) (fun q => ?_)
  · refine no0 (if_neg (fun ⟨_, w, _⟩ => ?_))
    have q : ¬ Int32.ofInt (mu' 2039) = Int32.ofInt 1 := q
    exact q (by rw [w])
  have q : ¬ ¬ Int32.ofInt (mu' 2039) = Int32.ofInt 1 := q
  have c2 : mu' 2039 = 1 := by
    have := congrArg Int32.toInt (Classical.not_not.mp q)
    rw [e3] at this
    exact this
  refine g_aload_n (pc := 15) (o := some 166) h (hC 15 (.aload_n 0, 1) rfl) (List.mem_cons_self) ?_
  refine m_get (pc := 16) (i := 90) (z := .inl 2037) Y (by decide +kernel) rfl ?_
  refine g_aload_n (pc := 19) (o := some 166) h (hC 19 (.aload_n 0, 1) rfl) (List.mem_cons_self) ?_
  refine m_get (pc := 20) (i := 97) (z := .inl 2038) Y (by decide +kernel) rfl ?_
  refine g_isub (pc := 23) h (hC 23 (.isub, 1) rfl) ?_
  refine g_aload_n (pc := 24) (o := some (1000 + j)) h (hC 24 (.aload_n 1, 1) rfl) (List.mem_cons_of_mem _ List.mem_cons_self) ?_
  refine g_length (pc := 25) (d := d) h hOE hA hG hrm (by omega) hlenW hj (show 1 + 0 ≤ 8 by decide) (hC 25 (.invokevirtual 128, 3) rfl) ?_
  have esub : (Int32.ofInt (mu' 2037) - Int32.ofInt (mu' 2038)).toInt = mu' 2037 - mu' 2038 := by
    rw [Int32.toInt_sub, e1, e2, Int.bmod_eq_of_le (by omega) (by omega)]
  refine g_icmp (pc := 28) (tgt := 35) h (hC 28 (.if_icmp .ne 7, 3) rfl) (by decide) (fun q => ?_) (fun q => ?_)
  · refine no0 (if_neg (fun ⟨_, _, w, _⟩ => ?_))
    have q : ¬ Int32.ofInt (mu' 2037) - Int32.ofInt (mu' 2038) = nI (gLen.getD j 0) := q
    refine q ?_
    rw [← Int32.toInt_inj, esub, elen]
    exact w
  have q : ¬ ¬ Int32.ofInt (mu' 2037) - Int32.ofInt (mu' 2038) = nI (gLen.getD j 0) := q
  have c3 : mu' 2037 - mu' 2038 = (gLen.getD j 0 : Nat) := by
    have := congrArg Int32.toInt (Classical.not_not.mp q)
    rw [esub, elen] at this
    exact this
  refine g_iconst (pc := 31) h (hC 31 (.iconst 1, 1) rfl) ?_
  refine g_goto (pc := 32) (tgt := 36) h (hC 32 (.goto 4, 3) rfl) (by decide) ?_
  refine g_istore_n (pc := 36) h (hC 36 (.istore_n 2, 1) rfl) hN2 ?_
  refine g_iconst (pc := 37) h (hC 37 (.iconst 0, 1) rfl) ?_
  refine g_istore_n (pc := 38) h (hC 38 (.istore_n 3, 1) rfl) hN3 ?_
  exact yes c1 c2 c3 (gLen.getD j 0) 0 (by omega) (fun i hi => absurd hi (Nat.not_lt_zero i))
