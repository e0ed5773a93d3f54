/-! BY HAND: say -/
set_option maxRecDepth 100000
theorem pigeon : ∀ (n : Nat) (f : Nat → Nat), (∀ i, i < n + 1 → f i < n) → ∃ i j, i < j ∧ j < n + 1 ∧ f i = f j
  | 0, f, h => absurd (h 0 (Nat.lt_succ_self 0)) (Nat.not_lt_zero _)
  | n + 1, f, h => by
    by_cases c : ∃ i, i < n + 1 ∧ f i = f (n + 1)
    · obtain ⟨i, hi, e⟩ := c
      exact ⟨i, n + 1, hi, Nat.lt_succ_self _, e⟩
    · have hne : ∀ i, i < n + 1 → f i ≠ f (n + 1) := fun i hi e => c ⟨i, hi, e⟩
      have h2 := h (n + 1) (by omega)
      obtain ⟨i, j, hij, hj, e⟩ := pigeon n (fun i => if f i = n then f (n + 1) else f i) (fun i hi => by
        have h1 := h i (by omega)
        have h3 := hne i hi
        show (if f i = n then f (n + 1) else f i) < n
        split <;> omega)
      refine ⟨i, j, hij, by omega, ?_⟩
      have e : (if f i = n then f (n + 1) else f i) = (if f j = n then f (n + 1) else f j) := e
      have h3 := hne i (by omega)
      have h4 := hne j hj
      split at e <;> split at e <;> omega
/-- what is said in a block of the reference's memory is apart -/
def SIb (b : Nat) (mu : gM) : Prop := ∀ i j : Nat, i < j → (j : Int) < mu (b + 6) → mu (b + 92 + i) / 2 ≠ mu (b + 92 + j) / 2
def SI (mu : gM) : Prop := SIb 2053 mu ∧ SIb 2154 mu ∧ SIb 2255 mu ∧ SIb 2356 mu
def kIsWay : sC := ([.inr (.inr (some 166)), .inr (.inl (-9223372036854775808, 9223372036854775807)), .inr (.inl (-9223372036854775808, 9223372036854775807))], [], [2056], [(some (.inl (.inl (0, []))), [], [], [], 0), (some (.inl (.inl (1, []))), [], [(2056, 1, 9), (3749, 0, 8), (3750, 0, 1)], [(1, [(2056, -1), (3749, 1)])], 0)])
def kLayWays : sC := ([.inr (.inr (some 166))], [], [], [(none, [(3366, 3383, none), (3384, 3401, none)], [], [], 0)])
def kSaidWorth : sC := ([.inr (.inr (some 166))], [], [], [(some (.inl (.inl (0, [(3764, 1)]))), [], [(3764, -2147483648, 2147483647)], [], 1)])
theorem lay_out (p : Nat) (h : p < 3366 ∨ 3401 < p) : sLook [(3366, 3383, none), (3384, 3401, none)] p = (none : Option (Option sL)) := by
  unfold sLook sLook sLook
  have h1 : ¬ (Nat.ble 3366 p && Nat.ble p 3383) = true := by
    simp only [Bool.and_eq_true, Nat.ble_eq]
    omega
  have h2 : ¬ (Nat.ble 3384 p && Nat.ble p 3401) = true := by
    simp only [Bool.and_eq_true, Nat.ble_eq]
    omega
  rw [if_neg h1, if_neg h2]
theorem wantless : ∀ v, v < 18 → (v : Int) / 2 < 9 := by omega
/-- the calls that say and judge make -/
def sayG (l : Launch) (d : Nat) (y : MethodName) (cb : ByteArray) (maxL : Nat) : Prop := ∀ X adV Post, gIn X adV l d y cb maxL (some .int) kG Post → sGiv X kP kF 3748 (.invokevirtual 268) kIsWay ∧ sGiv X kP kF 3748 (.invokevirtual 290) kLayWays ∧ sGiv X kP kF 3748 (.invokevirtual 406) kSaidWorth
theorem gcw12 {own : String} {idx : Nat} {y : MethodName} {cb : ByteArray} {maxL n : Nat} {ret : Option FieldType} (h1 : Cond.code y cb maxL ret ∈ TW) (hy : y.cls = RX12) (h2 : (parseMethodDescriptor y.desc).map (fun d => d.parameters.length) = some n) (h3 : maxL ≤ 40) : gcw own idx y cb maxL ret n :=
  ⟨fun w hw => by
    simp only [List.mem_cons, List.not_mem_nil, or_false] at hw
    rcases hw with rfl | rfl
    · exact h1
    · rw [hy]
      exact tw 13 rfl rfl, ⟨by rw [hy]; decide, by rw [hy]; decide, h2⟩, h3⟩
theorem fits9 {mu : gM} (hp : gProf kP mu) (hS : SIb 2053 mu) {v : Nat} (hv : v < 18) (hfree : ∀ i : Nat, (i : Int) < mu 2059 → mu (2145 + i) / 2 ≠ (v : Int) / 2) : mu 2059 ≤ 8 := by
  obtain ⟨s1, s2⟩ := prof_at hp 2059 (lo := 0) (hi := 9) (by decide +kernel)
  apply Classical.byContradiction
  intro c
  have e9 : mu 2059 = 9 := by omega
  obtain ⟨i, j, hij, hj, e⟩ := pigeon 9 (fun i => if i < 9 then (mu (2145 + i)).toNat / 2 else v / 2) (fun i hi => by
    show (if i < 9 then (mu (2145 + i)).toNat / 2 else v / 2) < 9
    split
    · rename_i c9
      obtain ⟨t1, t2⟩ := prof_at hp _ (said_pr i c9)
      omega
    · omega)
  have e : (if i < 9 then (mu (2145 + i)).toNat / 2 else v / 2) = (if j < 9 then (mu (2145 + j)).toNat / 2 else v / 2) := e
  rw [if_pos (by omega)] at e
  obtain ⟨t1, t2⟩ := prof_at hp _ (said_pr i (by omega))
  by_cases c9 : j < 9
  · rw [if_pos c9] at e
    obtain ⟨t3, t4⟩ := prof_at hp _ (said_pr j c9)
    have := hS i j hij (by rw [show (2053 + 6) = 2059 from rfl]; omega)
    simp only [show ∀ k, 2053 + 92 + k = 2145 + k from fun k => by omega] at this
    omega
  · rw [if_neg c9] at e
    have := hfree i (by omega)
    omega
/-- a want is said: at place N of the row, and N is one more -/
theorem SI_say {mu : gM} (hp : gProf kP mu) (hS : SI mu) {v N : Nat} (hN : mu 2059 = (N : Int)) (hN8 : N ≤ 8) (hfree : ∀ i : Nat, (i : Int) < mu 2059 → mu (2145 + i) / 2 ≠ (v : Int) / 2) : SI (gup (gup mu (2145 + N) (v : Int)) 2059 ((N : Int) + 1)) := by
  obtain ⟨S0, S1, S2, S3⟩ := hS
  have far : ∀ b : Nat, 2154 ≤ b → SIb b mu → SIb b (gup (gup mu (2145 + N) (v : Int)) 2059 ((N : Int) + 1)) := fun b hb hS i j hij hj => by
    rw [gup_n (by omega), gup_n (by omega)] at hj
    rw [gup_n (by omega), gup_n (by omega), gup_n (by omega), gup_n (by omega)]
    exact hS i j hij hj
  refine ⟨fun i j hij hj => ?_, far 2154 (by omega) S1, far 2255 (by omega) S2, far 2356 (by omega) S3⟩
  rw [show 2053 + 6 = 2059 from rfl, gup_s] at hj
  have hjN : j ≤ N := by omega
  rw [show 2053 + 92 + i = 2145 + i by omega, show 2053 + 92 + j = 2145 + j by omega, gup_n (show 2145 + i ≠ 2059 by omega), gup_n (show 2145 + i ≠ 2145 + N by omega), gup_n (show 2145 + j ≠ 2059 by omega)]
  by_cases c : j = N
  · subst c
    rw [gup_s]
    exact hfree i (by omega)
  · rw [gup_n (by omega)]
    have := S0 i j hij (by rw [show 2053 + 6 = 2059 from rfl]; omega)
    rw [show 2053 + 92 + i = 2145 + i by omega, show 2053 + 92 + j = 2145 + j by omega] at this
    exact this
theorem prof_say {mu : gM} (hp : gProf kP mu) {v N : Nat} (hv : v < 18) (hN8 : N ≤ 8) : gProf kP (gup (gup mu (2145 + N) (v : Int)) 2059 ((N : Int) + 1)) := by
  intro p g e
  unfold gup
  by_cases c : p = 2059
  · rw [if_pos c]
    subst c
    have e2 : spAt kP 2059 = some (0, 9) := by decide +kernel
    cases e.symm.trans e2
    simp only
    omega
  · rw [if_neg c]
    by_cases c2 : p = 2145 + N
    · rw [if_pos c2]
      subst c2
      cases e.symm.trans (said_pr N (by omega))
      simp only
      omega
    · rw [if_neg c2]
      exact hp p g e
/-- places that say leaves as they were -/
def sayOut (p : Nat) : Prop := p < 2053 ∨ (2153 < p ∧ p < 3366) ∨ 3401 < p
theorem say_ok (l : Launch) (d0 d : Nat) (hd : d0 < d) (hg : sayG l d yX12_say cX12_say 3) (hg2 : ∀ X adV Post, gIn X adV l d0 yX12_canSay cX12_canSay 3 (some .boolean) kG Post → sGiv X kP kF 3748 (.invokevirtual 265) kCanBe) (a b : Int32) (mu : gM) (hp : gProf kP mu) (hS : SI mu) :
    gMet l d yX12_say cX12_say 3 (some .int) kG [gR 166, gI a, gI b] mu (fun r mu' => (∃ z, r = some (gI z)) ∧ gProf kP mu' ∧ SI mu' ∧ ∀ p, sayOut p → mu' p = mu p) := by
  refine gMet.of (by decide) (show 1 + (1 + (1 + 0)) ≤ 3 by decide) (fun X adV hI => ?_)
  have Y := mF.of hI (C := kkX12_say) kwX12 kdX12_say
  obtain ⟨h, hK, hG, hC⟩ := id Y
  obtain ⟨gW, gL', gS⟩ := hg X adV _ hI
  have hl := hI.2.2.1
  have hR := hI.2.2.2.1
  have ho := hI.2.2.2.2.2.2.2.1
  have hOE := hI.2.1
  have hrm : gRm X d := .inl hR
  have hlay : glay 0 (gXG X) = true := by rw [hG]; exact kg2
  have hk : ∀ (r : Nat) (c : gC), kG[r]? = some c → (gXG X)[r]? = some c := fun r c e => by rw [hG]; exact e
  refine g_aload_n (pc := 0) (o := some 166) h (hC 0 (.aload_n 0, 1) rfl) (List.mem_cons_self) ?_
  refine g_iload_n (pc := 1) (x := a) h (hC 1 (.iload_n 1, 1) rfl) (List.mem_cons_of_mem _ List.mem_cons_self) ?_
  refine g_i2l (pc := 2) h (hC 2 (.i2l, 1) rfl) ?_
  refine g_iload_n (pc := 3) (x := b) h (hC 3 (.iload_n 2, 1) rfl) (List.mem_cons_of_mem _ (List.mem_cons_of_mem _ List.mem_cons_self)) ?_
  refine g_i2l (pc := 4) h (hC 4 (.i2l, 1) rfl) ?_
  have ra := i64_range a.toInt64
  have rb := i64_range b.toInt64
  refine giv_use gW (pc := 5) [gR 166, gL a.toInt64, gL b.toInt64] [] rfl (hC 5 (.invokevirtual 268, 3) rfl) ⟨rfl, ⟨ra.1, ra.2⟩, ⟨rb.1, rb.2⟩, trivial⟩ hp (fun q hq => absurd hq List.not_mem_nil) (by decide) (fun x hx ret mu' hX => ?_)
  have no : ∀ (n : Int) (z : Int32) (pc : Nat) (m : gM), gProf kP m → SI m → (∀ p, sayOut p → m p = mu p) → cAt kkX12_say pc = some (.bipush n, 2) → cAt kkX12_say (pc + 2) = some (.ireturn, 1) → gG X pc [(0, gR 166), (1, gI a), (2, gI b)] [] m := fun n z pc m hpm hSm hm h1 h2 => by
    refine g_bipush h (hC _ _ h1) ?_
    exact g_ireturn hI rfl (hC _ _ h2) ⟨⟨_, rfl⟩, hpm, hSm, hm⟩
  simp only [kIsWay, List.mem_cons, List.not_mem_nil, or_false] at hx
  rcases hx with rfl | rfl
  · obtain ⟨z, rfl, hz⟩ := xok_k hX rfl
    obtain rfl := xok_me hX rfl
    show gG X 8 [(0, gR 166), (1, gI a), (2, gI b)] [gI z] mu'
    refine g_if (pc := 8) (tgt := 14) h (hC 8 (.ifCond .ne 6, 3) rfl) (by decide) (fun q => absurd ?_ q) (fun _ => no _ 0 11 mu' hp hS (fun _ _ => rfl) rfl rfl)
    rw [← Int32.toInt_inj, hz]
    rfl
  obtain ⟨z, rfl, hz⟩ := xok_k hX rfl
  obtain ⟨a1, a2⟩ := xok_argL hX (j := 1) (by omega) rfl (List.mem_cons_of_mem _ List.mem_cons_self)
  obtain ⟨b1, b2⟩ := xok_argL hX (j := 2) (by omega) rfl (List.mem_cons_of_mem _ (List.mem_cons_of_mem _ List.mem_cons_self))
  obtain rfl := xok_me hX rfl
  rw [Int32.toInt_toInt64] at a1 a2 b1 b2
  show gG X 8 [(0, gR 166), (1, gI a), (2, gI b)] [gI z] mu'
  refine g_if (pc := 8) (tgt := 14) h (hC 8 (.ifCond .ne 6, 3) rfl) (by decide) (fun _ => ?_) (fun q => absurd (fun (w : z = 0) => ?_) q)
  rotate_left
  · rw [w] at hz
    exact absurd hz (by decide)
  obtain ⟨v, hv, ev⟩ : ∃ v, v < 18 ∧ Int32.ofInt 2 * a + b = nI v := by
    refine ⟨2 * a.toInt.toNat + b.toInt.toNat, by omega, ?_⟩
    have e2 : (Int32.ofInt 2).toInt = 2 := by decide
    have em : (Int32.ofInt 2 * a).toInt = 2 * a.toInt := by
      rw [Int32.toInt_mul, e2, Int.bmod_eq_of_le (by omega) (by omega)]
    rw [← Int32.toInt_inj, Int32.toInt_add, em, nI_toInt (by omega), Int.bmod_eq_of_le (by omega) (by omega)]
    omega
  refine g_aload_n (pc := 14) (o := some 166) h (hC 14 (.aload_n 0, 1) rfl) (List.mem_cons_self) ?_
  refine giv_use gL' (pc := 15) [gR 166] [] rfl (hC 15 (.invokevirtual 290, 3) rfl) ⟨rfl, trivial⟩ hp (fun q hq => absurd hq List.not_mem_nil) (by decide) (fun x hx ret m1 hX1 => ?_)
  rw [List.mem_singleton.mp hx] at hX1
  obtain rfl := xok_none hX1 rfl
  have hp1 := xok_prof hX1
  have ho1 : ∀ p, p < 3366 ∨ 3401 < p → m1 p = mu' p := fun p hp => xok_at hX1 p (lay_out p hp)
  have hS1 : SI m1 := by
    obtain ⟨S0, S1, S2, S3⟩ := hS
    have far : ∀ b : Nat, b ≤ 2356 → mu' (b + 6) ≤ 9 → SIb b mu' → SIb b m1 := fun b hb h9 hS i j hij hj => by
      have e6 := ho1 (b + 6) (by omega)
      rw [e6] at hj
      rw [ho1 (b + 92 + i) (by omega), ho1 (b + 92 + j) (by omega)]
      exact hS i j hij hj
    exact ⟨far _ (by omega) (prof_at hp 2059 (lo := 0) (by decide +kernel)).2 S0, far _ (by omega) (prof_at hp 2160 (lo := 0) (by decide +kernel)).2 S1, far _ (by omega) (prof_at hp 2261 (lo := 0) (by decide +kernel)).2 S2, far _ (by omega) (prof_at hp 2362 (lo := 0) (by decide +kernel)).2 S3⟩
  have hout1 : ∀ p, sayOut p → m1 p = mu' p := fun p hp => ho1 p (by unfold sayOut at hp; omega)
  show gG X 18 [(0, gR 166), (1, gI a), (2, gI b)] [] m1
  refine g_aload_n (pc := 18) (o := some 166) h (hC 18 (.aload_n 0, 1) rfl) (List.mem_cons_self) ?_
  refine g_iconst (pc := 19) h (hC 19 (.iconst 2, 1) rfl) ?_
  refine g_iload_n (pc := 20) (x := a) h (hC 20 (.iload_n 1, 1) rfl) (List.mem_cons_of_mem _ List.mem_cons_self) ?_
  refine g_imul (pc := 21) h (hC 21 (.imul, 1) rfl) ?_
  refine g_iload_n (pc := 22) (x := b) h (hC 22 (.iload_n 2, 1) rfl) (List.mem_cons_of_mem _ (List.mem_cons_of_mem _ List.mem_cons_self)) ?_
  refine g_iadd (pc := 23) h (hC 23 (.iadd, 1) rfl) ?_
  refine g_aload_n (pc := 24) (o := some 166) h (hC 24 (.aload_n 0, 1) rfl) (List.mem_cons_self) ?_
  rw [ev]
  refine m_call (pc := 25) (d := d) (d' := 0) (as := []) (st := [gI (nI v), gR 166]) (idx := 400) (n := 0) Y hOE hrm (by omega) (saidWays_ok _ 0 m1 hp1) rfl (gcw12 (tw 1804 rfl rfl) rfl (by decide) (by decide)) (by rw [ho]; exact tw 1801 rfl rfl) (tw 1803 rfl rfl) (TW_in (List.mem_append_left _ (List.mem_of_getElem? (i := 107) rfl)) rfl) rfl rfl (show 1 + (1 + 0) ≤ 8 by decide) rfl (fun r m2 hr => ?_)
  obtain ⟨⟨w, rfl, hw⟩, rfl⟩ := hr
  refine m_call (pc := 28) (d := d) (d' := d0) (as := [gI (nI v), gI w]) (st := []) (idx := 403) (n := 2) Y hOE hrm hd (by rw [hl]; exact canSay_ok l d0 hg2 hv w m2 hp1) rfl (gcw12 (tw 1808 rfl rfl) rfl (by decide) (by decide)) (by rw [ho]; exact tw 1805 rfl rfl) (tw 1807 rfl rfl) (TW_in (List.mem_append_left _ (List.mem_of_getElem? (i := 108) rfl)) rfl) rfl rfl (by decide) rfl (fun r m3 hr => ?_)
  obtain ⟨⟨c, rfl, hc01, hc⟩, rfl⟩ := hr
  show gG X 31 [(0, gR 166), (1, gI a), (2, gI b)] [gI c] m3
  refine g_if (pc := 31) (tgt := 37) h (hC 31 (.ifCond .ne 6, 3) rfl) (by decide) (fun q => ?_) (fun _ => no _ 0 34 m3 hp1 hS1 hout1 rfl rfl)
  have hc := hc q
  have hfree : ∀ i : Nat, (i : Int) < m3 2059 → m3 (2145 + i) / 2 ≠ (v : Int) / 2 := fun i hi e => by
    obtain ⟨t1, t2⟩ := prof_at hp1 2059 (lo := 0) (hi := 9) (by decide +kernel)
    obtain ⟨t3, t4⟩ := prof_at hp1 _ (said_pr i (by omega))
    have w1 := hw i hi
    rw [hc (m3 (2145 + i)).toNat (by omega) (by omega)] at w1
    cases w1
  have h8 := fits9 hp1 hS1.1 hv hfree
  obtain ⟨t1, t2⟩ := prof_at hp1 2059 (lo := 0) (hi := 9) (by decide +kernel)
  obtain ⟨N, hN⟩ : ∃ N : Nat, m3 2059 = (N : Int) := ⟨(m3 2059).toNat, by omega⟩
  have hN8 : N ≤ 8 := by omega
  have e1 : Int32.ofInt (m3 2059) = nI N := by
    rw [← Int32.toInt_inj, i32_of (by omega) (by omega), nI_toInt (by omega)]
    exact hN
  have e92 : (Int8.ofInt 92).toInt32 + nI N = nI (92 + N) := nI_add 92 N
  refine g_aload_n (pc := 37) (o := some 166) h (hC 37 (.aload_n 0, 1) rfl) (List.mem_cons_self) ?_
  refine m_get (pc := 38) (i := 9) (z := .inr 167) Y (by decide +kernel) rfl ?_
  refine g_bipush (pc := 41) h (hC 41 (.bipush 92, 2) rfl) ?_
  refine g_aload_n (pc := 43) (o := some 166) h (hC 43 (.aload_n 0, 1) rfl) (List.mem_cons_self) ?_
  refine m_get (pc := 44) (i := 9) (z := .inr 167) Y (by decide +kernel) rfl ?_
  refine g_bipush (pc := 47) h (hC 47 (.bipush 6, 2) rfl) ?_
  refine g_iaload (pc := 49) (k := 167) (b := 2053) (n := 101) (i := ((Int8.ofInt 6).toInt32)) h (hk 167 (.inr (.inl (0, 2053, 101))) rfl) (show ¬ (_ ∨ _) by decide) (hC 49 (.iaload, 1) rfl) ?_
  show gG X 50 [(0, gR 166), (1, gI a), (2, gI b)] [gI (Int32.ofInt (m3 2059)), gI ((Int8.ofInt 92).toInt32), gR 167] m3
  rw [e1]
  refine g_iadd (pc := 50) h (hC 50 (.iadd, 1) rfl) ?_
  refine g_iconst (pc := 51) h (hC 51 (.iconst 2, 1) rfl) ?_
  refine g_iload_n (pc := 52) (x := a) h (hC 52 (.iload_n 1, 1) rfl) (List.mem_cons_of_mem _ List.mem_cons_self) ?_
  refine g_imul (pc := 53) h (hC 53 (.imul, 1) rfl) ?_
  refine g_iload_n (pc := 54) (x := b) h (hC 54 (.iload_n 2, 1) rfl) (List.mem_cons_of_mem _ (List.mem_cons_of_mem _ List.mem_cons_self)) ?_
  refine g_iadd (pc := 55) h (hC 55 (.iadd, 1) rfl) ?_
  rw [ev, e92]
  refine g_iastore (pc := 56) (k := 167) (b := 2053) (n := 101) (i := nI (92 + N)) h hlay (hk 167 (.inr (.inl (0, 2053, 101))) rfl) (vp_in_nI (by omega) (by decide)) (hC 56 (.iastore, 1) rfl) ?_
  rw [nI_clamp (by omega), nI_toInt (by omega), show 2053 + (92 + N) = 2145 + N by omega]
  refine g_aload_n (pc := 57) (o := some 166) h (hC 57 (.aload_n 0, 1) rfl) (List.mem_cons_self) ?_
  refine m_get (pc := 58) (i := 9) (z := .inr 167) Y (by decide +kernel) rfl ?_
  refine g_bipush (pc := 61) h (hC 61 (.bipush 6, 2) rfl) ?_
  refine g_dup2 (pc := 63) h (hC 63 (.dup2, 1) rfl) rfl rfl ?_
  refine g_iaload (pc := 64) (k := 167) (b := 2053) (n := 101) (i := ((Int8.ofInt 6).toInt32)) h (hk 167 (.inr (.inl (0, 2053, 101))) rfl) (show ¬ (_ ∨ _) by decide) (hC 64 (.iaload, 1) rfl) ?_
  show gG X 65 [(0, gR 166), (1, gI a), (2, gI b)] [gI (Int32.ofInt (gup m3 (2145 + N) (v : Int) 2059)), gI ((Int8.ofInt 6).toInt32), gR 167] (gup m3 (2145 + N) (v : Int))
  rw [gup_n (show 2059 ≠ 2145 + N by omega), e1]
  refine g_iconst (pc := 65) h (hC 65 (.iconst 1, 1) rfl) ?_
  refine g_iadd (pc := 66) h (hC 66 (.iadd, 1) rfl) ?_
  rw [show nI N + Int32.ofInt 1 = nI (N + 1) from nI_add N 1]
  refine g_iastore (pc := 67) (k := 167) (b := 2053) (n := 101) (i := (Int8.ofInt 6).toInt32) h hlay (hk 167 (.inr (.inl (0, 2053, 101))) rfl) (show ¬ (_ ∨ _) by decide) (hC 67 (.iastore, 1) rfl) ?_
  rw [nI_toInt (by omega)]
  show gG X 68 [(0, gR 166), (1, gI a), (2, gI b)] [] (gup (gup m3 (2145 + N) (v : Int)) 2059 ((N + 1 : Nat) : Int))
  rw [show ((N + 1 : Nat) : Int) = (N : Int) + 1 by omega]
  have hp4 := prof_say hp1 hv hN8
  have hS4 := SI_say hp1 hS1 hN hN8 hfree
  generalize hm4 : gup (gup m3 (2145 + N) (v : Int)) 2059 ((N : Int) + 1) = m4 at hp4 hS4 ⊢
  refine g_aload_n (pc := 68) (o := some 166) h (hC 68 (.aload_n 0, 1) rfl) (List.mem_cons_self) ?_
  refine giv_use gS (pc := 69) [gR 166] [] rfl (hC 69 (.invokevirtual 406, 3) rfl) ⟨rfl, trivial⟩ hp4 (fun q hq => absurd hq List.not_mem_nil) (by decide) (fun x hx ret m5 hX5 => ?_)
  rw [List.mem_singleton.mp hx] at hX5
  obtain ⟨zz, rfl⟩ := isInt_ok rfl hX5
  obtain rfl := xok_me hX5 rfl
  refine g_ireturn (pc := 72) hI rfl (hC 72 (.ireturn, 1) rfl) ⟨⟨_, rfl⟩, hp4, hS4, fun p hp => ?_⟩
  rw [← hout1 p hp, ← hm4]
  unfold sayOut at hp
  rw [gup_n (by omega), gup_n (by omega)]
