/-! BY HAND: judge -/
set_option maxRecDepth 100000
def kIsSlot : sC := ([.inl (-2147483648, 2147483647)], [], [], [(some (.inl (.inl (0, []))), [], [(3748, -2147483648, -1)], [], 0), (some (.inl (.inl (0, []))), [], [(3748, 4, 2147483647)], [], 0), (some (.inl (.inl (1, []))), [], [(3748, 0, 3)], [], 0)])
def kIsValley : sC := ([.inr (.inr (some 166))], [], [2060], [(some (.inl (.inl (0, []))), [], [(2060, -2147483648, 0)], [], 0), (some (.inl (.inl (1, []))), [], [(2060, 1, 2147483647)], [], 0)])
def kJudgeM : sMem := [(3366, 3383, none), (3384, 3401, none)]
def kJudge : sC := ([.inr (.inr (some 166)), .inl (-2147483648, 2147483647)], [], [], [(some (.inl (.inl (0, [(3764, 1)]))), kJudgeM, [(3764, -2147483648, 2147483647)], [], 1)])
theorem lay_in (p : Nat) (h : ¬ (p < 3366 ∨ 3401 < p)) : sLook [(3366, 3383, none), (3384, 3401, none)] p = some (none : Option sL) := by
  unfold sLook sLook
  by_cases c : p ≤ 3383
  · have h1 : (Nat.ble 3366 p && Nat.ble p 3383) = true := by
      simp only [Bool.and_eq_true, Nat.ble_eq]
      omega
    rw [if_pos h1]
  · have h1 : ¬ (Nat.ble 3366 p && Nat.ble p 3383) = true := by
      simp only [Bool.and_eq_true, Nat.ble_eq]
      omega
    have h2 : (Nat.ble 3384 p && Nat.ble p 3401) = true := by
      simp only [Bool.and_eq_true, Nat.ble_eq]
      omega
    rw [if_neg h1, if_pos h2]
theorem many_pr : ∀ i, i < 4 → spAt kP (3440 + i) = some (-1, 60) := by decide +kernel
theorem even32 : ∀ k, k < 61 → nI k - nI k / Int32.ofInt 2 * Int32.ofInt 2 = 0 → k % 2 = 0 := by decide +kernel
theorem l2i_small : ∀ k, k < 9 → Int64.toInt32 (Int64.ofInt (k : Nat)) = nI k := by decide +kernel
def judG (l : Launch) (d : Nat) : Prop := ∀ X adV Post, gIn X adV l d yX12_judge cX12_judge 5 (some .int) kG Post → sGiv X kP kF 3748 (.invokestatic 375) kIsSlot ∧ sGiv X kP kF 3748 (.invokevirtual 253) kIsValley ∧ sGiv X kP kF 3748 (.invokevirtual 268) kIsWay ∧ sGiv X kP kF 3748 (.invokevirtual 290) kLayWays
theorem judge_ok (l : Launch) (d0 d : Nat) (hd : d0 < d) (hg : judG l d) (hg2 : ∀ X adV Post, gIn X adV l d0 yX12_canSay cX12_canSay 3 (some .boolean) kG Post → sGiv X kP kF 3748 (.invokevirtual 265) kCanBe) : cMet l d yX12_judge cX12_judge 5 (some .int) kG kP kF 3748 kJudge := by
  intro av mu ha hp hpre
  rcases av with _ | ⟨(x | x) | x, _ | ⟨(s | z) | z, _ | ⟨w, av⟩⟩⟩
  all_goals first | exact ha.elim | exact ha.2.elim | exact ha.2.2.elim | skip
  obtain ⟨rfl, -, -⟩ := ha
  have post : ∀ (z : Int32) (m : gM), gProf kP m → (∀ p, p < 3366 ∨ 3401 < p → m p = mu p) → cPost 3748 kP kF kJudge [gR 166, gI s] mu (some (gI z)) m := fun z m hpm hm => by
    have rz := i32_range z
    refine ⟨_, List.mem_cons_self, sUp (sR0 3748 kF [gR 166, gI s] mu) 3764 z.toInt, sR0_ok 3748 kF _ mu (fun i hi => if_neg (by omega)), ?_, hpm, fun p => ?_, fun q hq => ?_, fun q hq => absurd hq List.not_mem_nil⟩
    · show z.toInt = 0 + (1 * sUp _ 3764 _ 3764 + 0)
      rw [sUp_s]
      omega
    · by_cases c : p < 3366 ∨ 3401 < p
      · rw [show sLook kJudgeM p = none from lay_out p c]
        exact hm p c
      · rw [show sLook kJudgeM p = some none from lay_in p c]
        trivial
    · rw [List.mem_singleton.mp hq]
      show -2147483648 ≤ sUp _ 3764 _ 3764 ∧ sUp _ 3764 _ 3764 ≤ 2147483647
      rw [sUp_s]
      exact rz
  refine gMet.of (by decide) (show 1 + (1 + 0) ≤ 5 by decide) (fun X adV hI => ?_)
  have Y := mF.of hI (C := kkX12_judge) kwX12 kdX12_judge
  obtain ⟨h, hK, hG, hC⟩ := id Y
  obtain ⟨gS, gV', gW, gL'⟩ := hg X adV _ hI
  have hl := hI.2.2.1
  have hR := hI.2.2.2.1
  have hn := hI.2.2.2.2.2.2.1
  have ho := hI.2.2.2.2.2.2.2.1
  have hOE := hI.2.1
  have hrm : gRm X d := .inl hR
  have hN2 : ((2 : Fin 4) : Nat) < gXn X := by rw [hn]; decide
  have hN3 : ((3 : Fin 4) : Nat) < gXn X := by rw [hn]; decide
  have hN4 : 4 < gXn X := by rw [hn]; decide
  have hk : ∀ (r : Nat) (c : gC), kG[r]? = some c → (gXG X)[r]? = some c := fun r c e => by rw [hG]; exact e
  have no : ∀ (n : Int) (pc : Nat) (lv : List (Nat × gV)) (m : gM), gProf kP m → (∀ p, p < 3366 ∨ 3401 < p → m p = mu p) → cAt kkX12_judge pc = some (.bipush n, 2) → cAt kkX12_judge (pc + 2) = some (.ireturn, 1) → gG X pc lv [] m := fun n pc lv m hpm hm h1 h2 => by
    refine g_bipush h (hC _ _ h1) ?_
    exact g_ireturn hI rfl (hC _ _ h2) (post _ m hpm hm)
  refine g_iload_n (pc := 0) (x := s) h (hC 0 (.iload_n 1, 1) rfl) (List.mem_cons_of_mem _ List.mem_cons_self) ?_
  refine giv_use gS (pc := 1) [gI s] [] rfl (hC 1 (.invokestatic 375, 3) rfl) ⟨i32_range s, trivial⟩ hp (fun q hq => absurd hq List.not_mem_nil) (by decide) (fun x hx ret mu' hX => ?_)
  have n14 : ∀ lv, gG X 14 lv [] mu := fun lv => no _ 14 lv mu hp (fun _ _ => rfl) rfl rfl
  have big : ∀ z : Int32, z.toInt = 0 → gG X 4 [(0, gR 166), (1, gI s)] [gI z] mu := fun z hz => by
    refine g_if (pc := 4) (tgt := 14) h (hC 4 (.ifCond .eq 10, 3) rfl) (by decide) (fun _ => n14 _) (fun q => absurd ?_ q)
    show z = 0
    rw [← Int32.toInt_inj, hz]
    rfl
  simp only [kIsSlot, List.mem_cons, List.not_mem_nil, or_false] at hx
  rcases hx with rfl | rfl | rfl
  · obtain ⟨z, rfl, hz⟩ := xok_k hX rfl
    obtain rfl := xok_me hX rfl
    exact big z hz
  · obtain ⟨z, rfl, hz⟩ := xok_k hX rfl
    obtain rfl := xok_me hX rfl
    exact big z hz
  obtain ⟨z, rfl, hz⟩ := xok_k hX rfl
  obtain ⟨a1, a2⟩ := xok_argI hX (j := 0) (by omega) rfl List.mem_cons_self
  obtain rfl := xok_me hX rfl
  show gG X 4 [(0, gR 166), (1, gI s)] [gI z] mu'
  refine g_if (pc := 4) (tgt := 14) h (hC 4 (.ifCond .eq 10, 3) rfl) (by decide) (fun (w : z = 0) => ?_) (fun _ => ?_)
  · rw [w] at hz
    exact absurd hz (by decide)
  obtain ⟨S, hS4, eS⟩ : ∃ S, S < 4 ∧ s = nI S := ⟨s.toInt.toNat, by omega, nI_at s a1⟩
  rw [eS]
  have many := prof_at hp _ (many_pr S hS4)
  have em : (Int32.ofInt (mu' (3440 + S))).toInt = mu' (3440 + S) := i32_of (by omega) (by omega)
  refine g_aload_n (pc := 7) (o := some 166) h (hC 7 (.aload_n 0, 1) rfl) (List.mem_cons_self) ?_
  refine giv_use gV' (pc := 8) [gR 166] [] rfl (hC 8 (.invokevirtual 253, 3) rfl) ⟨rfl, trivial⟩ hp (fun q hq => absurd hq List.not_mem_nil) (by decide) (fun x hx ret mu hX => ?_)
  have hX2 : (∃ z, ret = some (gI z)) ∧ mu = mu' := by
    simp only [kIsValley, List.mem_cons, List.not_mem_nil, or_false] at hx
    rcases hx with rfl | rfl
    · exact ⟨isInt_ok rfl hX, xok_me hX rfl⟩
    · exact ⟨isInt_ok rfl hX, xok_me hX rfl⟩
  obtain ⟨⟨z, rfl⟩, rfl⟩ := hX2
  show gG X 11 [(0, gR 166), (1, gI (nI S))] [gI z] mu
  refine g_if (pc := 11) (tgt := 17) h (hC 11 (.ifCond .ne 6, 3) rfl) (by decide) (fun _ => ?_) (fun _ => n14 _)
  refine g_aload_n (pc := 17) (o := some 166) h (hC 17 (.aload_n 0, 1) rfl) (List.mem_cons_self) ?_
  refine m_get (pc := 18) (i := 58) (z := .inr 180) Y (by decide +kernel) rfl ?_
  refine g_iload_n (pc := 21) (x := (nI S)) h (hC 21 (.iload_n 1, 1) rfl) (List.mem_cons_of_mem _ List.mem_cons_self) ?_
  refine g_iaload (pc := 22) (k := 180) (b := 3440) (n := 4) (i := (nI S)) h (hk 180 (.inr (.inl (0, 3440, 4))) rfl) (vp_in_nI hS4 (by decide)) (hC 22 (.iaload, 1) rfl) ?_
  rw [nI_clamp (show S < 2 ^ 31 by omega)]
  refine g_iconst (pc := 23) h (hC 23 (.iconst (-1), 1) rfl) ?_
  refine g_icmp (pc := 24) (tgt := 30) h (hC 24 (.if_icmp .ne 6, 3) rfl) (by decide) (fun q => ?_) (fun _ => no _ 27 _ mu hp (fun _ _ => rfl) rfl rfl)
  have q : ¬ Int32.ofInt (mu (3440 + S)) = Int32.ofInt (-1) := q
  have hM0 : 0 ≤ mu (3440 + S) := by
    have : mu (3440 + S) ≠ -1 := fun w => q (by rw [w])
    omega
  obtain ⟨M, hM⟩ : ∃ M : Nat, mu (3440 + S) = (M : Int) := ⟨(mu (3440 + S)).toNat, by omega⟩
  have eM : Int32.ofInt (mu (3440 + S)) = nI M := by
    rw [← Int32.toInt_inj, em, nI_toInt (by omega)]
    exact hM
  refine g_aload_n (pc := 30) (o := some 166) h (hC 30 (.aload_n 0, 1) rfl) (List.mem_cons_self) ?_
  refine m_get (pc := 31) (i := 58) (z := .inr 180) Y (by decide +kernel) rfl ?_
  refine g_iload_n (pc := 34) (x := (nI S)) h (hC 34 (.iload_n 1, 1) rfl) (List.mem_cons_of_mem _ List.mem_cons_self) ?_
  refine g_iaload (pc := 35) (k := 180) (b := 3440) (n := 4) (i := (nI S)) h (hk 180 (.inr (.inl (0, 3440, 4))) rfl) (vp_in_nI hS4 (by decide)) (hC 35 (.iaload, 1) rfl) ?_
  rw [nI_clamp (show S < 2 ^ 31 by omega), eM]
  refine g_iconst (pc := 36) h (hC 36 (.iconst 2, 1) rfl) ?_
  refine g_irem (pc := 37) h (hC 37 (.irem, 1) rfl) (by decide) ?_
  refine g_if (pc := 38) (tgt := 44) h (hC 38 (.ifCond .eq 6, 3) rfl) (by decide) (fun q => ?_) (fun _ => no _ 41 _ mu hp (fun _ _ => rfl) rfl rfl)
  have hev := even32 M (by omega) q
  obtain ⟨T, hT⟩ : ∃ T, M = 2 * T := ⟨M / 2, by omega⟩
  subst hT
  have hT30 : T ≤ 30 := by omega
  -- what the first loop has seen
  let K : Nat → Prop := fun t => ∀ u, u < t → (0 ≤ mu (3448 + (60 * S + 2 * u)) ∧ mu (3448 + (60 * S + 2 * u)) ≤ 8) ∧ 0 ≤ mu (3448 + (60 * S + (2 * u + 1))) ∧ mu (3448 + (60 * S + (2 * u + 1))) ≤ 1
  have tail : K T → gG X 86 [(2, gI (nI (2 * T))), (0, gR 166), (1, gI (nI S))] [] mu := fun hKT => by
    refine g_aload_n (pc := 86) (o := some 166) h (hC 86 (.aload_n 0, 1) rfl) (List.mem_cons_of_mem _ List.mem_cons_self) ?_
    refine giv_use gL' (pc := 87) [gR 166] [] rfl (hC 87 (.invokevirtual 290, 3) rfl) ⟨rfl, trivial⟩ hp (fun q hq => absurd hq List.not_mem_nil) (by decide) (fun x hx ret m1 hX1 => ?_)
    rw [List.mem_singleton.mp hx] at hX1
    obtain rfl := xok_none hX1 rfl
    have hp1 := xok_prof hX1
    have ho1 : ∀ p, p < 3366 ∨ 3401 < p → m1 p = mu p := fun p hp => xok_at hX1 p (lay_out p hp)
    have em1 : Int32.ofInt (m1 (3440 + S)) = nI (2 * T) := by
      rw [ho1 _ (by omega)]
      exact eM
    have loop : ∀ n t (w : Int32), t + n = T → gG X 94 [(3, gI (nI (2 * t))), (2, gI w), (0, gR 166), (1, gI (nI S))] [] m1 := by
      intro n
      induction n with
      | zero =>
        intro t w htn
        refine g_iload_n (pc := 94) (x := (nI (2 * t))) h (hC 94 (.iload_n 3, 1) rfl) (List.mem_cons_self) ?_
        refine g_aload_n (pc := 95) (o := some 166) h (hC 95 (.aload_n 0, 1) rfl) (List.mem_cons_of_mem _ (List.mem_cons_of_mem _ List.mem_cons_self)) ?_
        refine m_get (pc := 96) (i := 58) (z := .inr 180) Y (by decide +kernel) rfl ?_
        refine g_iload_n (pc := 99) (x := (nI S)) h (hC 99 (.iload_n 1, 1) rfl) (List.mem_cons_of_mem _ (List.mem_cons_of_mem _ (List.mem_cons_of_mem _ List.mem_cons_self))) ?_
        refine g_iaload (pc := 100) (k := 180) (b := 3440) (n := 4) (i := (nI S)) h (hk 180 (.inr (.inl (0, 3440, 4))) rfl) (vp_in_nI hS4 (by decide)) (hC 100 (.iaload, 1) rfl) ?_
        rw [nI_clamp (show S < 2 ^ 31 by omega), em1]
        refine g_icmp (pc := 101) (tgt := 152) h (hC 101 (.if_icmp .ge 51, 3) rfl) (by decide) (fun _ => ?_) (fun q => absurd ?_ q)
        · refine g_aload_n (pc := 152) (o := some 166) h (hC 152 (.aload_n 0, 1) rfl) (List.mem_cons_of_mem _ (List.mem_cons_of_mem _ List.mem_cons_self)) ?_
          refine m_get (pc := 153) (i := 58) (z := .inr 180) Y (by decide +kernel) rfl ?_
          refine g_iload_n (pc := 156) (x := (nI S)) h (hC 156 (.iload_n 1, 1) rfl) (List.mem_cons_of_mem _ (List.mem_cons_of_mem _ (List.mem_cons_of_mem _ List.mem_cons_self))) ?_
          refine g_iaload (pc := 157) (k := 180) (b := 3440) (n := 4) (i := (nI S)) h (hk 180 (.inr (.inl (0, 3440, 4))) rfl) (vp_in_nI hS4 (by decide)) (hC 157 (.iaload, 1) rfl) ?_
          rw [nI_clamp (show S < 2 ^ 31 by omega), em1]
          refine g_iconst (pc := 158) h (hC 158 (.iconst 2, 1) rfl) ?_
          refine g_idiv (pc := 159) h (hC 159 (.idiv, 1) rfl) (by decide) ?_
          exact g_ireturn (pc := 160) hI rfl (hC 160 (.ireturn, 1) rfl) (post _ m1 hp1 ho1)
        · show nI (2 * T) ≤ nI (2 * t)
          rw [Int32.le_iff_toInt_le, nI_toInt (by omega), nI_toInt (by omega)]
          omega
      | succ n ih =>
        intro t w htn
        refine g_iload_n (pc := 94) (x := (nI (2 * t))) h (hC 94 (.iload_n 3, 1) rfl) (List.mem_cons_self) ?_
        refine g_aload_n (pc := 95) (o := some 166) h (hC 95 (.aload_n 0, 1) rfl) (List.mem_cons_of_mem _ (List.mem_cons_of_mem _ List.mem_cons_self)) ?_
        refine m_get (pc := 96) (i := 58) (z := .inr 180) Y (by decide +kernel) rfl ?_
        refine g_iload_n (pc := 99) (x := (nI S)) h (hC 99 (.iload_n 1, 1) rfl) (List.mem_cons_of_mem _ (List.mem_cons_of_mem _ (List.mem_cons_of_mem _ List.mem_cons_self))) ?_
        refine g_iaload (pc := 100) (k := 180) (b := 3440) (n := 4) (i := (nI S)) h (hk 180 (.inr (.inl (0, 3440, 4))) rfl) (vp_in_nI hS4 (by decide)) (hC 100 (.iaload, 1) rfl) ?_
        rw [nI_clamp (show S < 2 ^ 31 by omega), em1]
        refine g_icmp (pc := 101) (tgt := 152) h (hC 101 (.if_icmp .ge 51, 3) rfl) (by decide) (fun q => ?_) (fun _ => ?_)
        · exfalso
          have q : nI (2 * T) ≤ nI (2 * t) := q
          rw [Int32.le_iff_toInt_le, nI_toInt (by omega), nI_toInt (by omega)] at q
          omega
        obtain ⟨⟨k1, k2⟩, k3, k4⟩ := hKT t (by omega)
        rw [← ho1 _ (by omega)] at k1 k2
        rw [← ho1 _ (by omega)] at k3 k4
        obtain ⟨v1, hv1⟩ : ∃ v1 : Nat, m1 (3448 + (60 * S + 2 * t)) = (v1 : Int) := ⟨(m1 (3448 + (60 * S + 2 * t))).toNat, by omega⟩
        obtain ⟨v2, hv2⟩ : ∃ v2 : Nat, m1 (3448 + (60 * S + (2 * t + 1))) = (v2 : Int) := ⟨(m1 (3448 + (60 * S + (2 * t + 1)))).toNat, by omega⟩
        have ev : Int32.ofInt 2 * nI v1 + nI v2 = nI (2 * v1 + v2) := by
          have e2 : (Int32.ofInt 2).toInt = 2 := by decide
          have em : Int32.ofInt 2 * nI v1 = nI (2 * v1) := by
            rw [← Int32.toInt_inj, Int32.toInt_mul, e2, nI_toInt (by omega), nI_toInt (by omega), Int.bmod_eq_of_le (by omega) (by omega)]
            omega
          rw [em, nI_add]
        refine g_iconst (pc := 104) h (hC 104 (.iconst 2, 1) rfl) ?_
        refine g_aload_n (pc := 105) (o := some 166) h (hC 105 (.aload_n 0, 1) rfl) (List.mem_cons_of_mem _ (List.mem_cons_of_mem _ List.mem_cons_self)) ?_
        refine g_iload_n (pc := 106) (x := (nI S)) h (hC 106 (.iload_n 1, 1) rfl) (List.mem_cons_of_mem _ (List.mem_cons_of_mem _ (List.mem_cons_of_mem _ List.mem_cons_self))) ?_
        refine g_iload_n (pc := 107) (x := (nI (2 * t))) h (hC 107 (.iload_n 3, 1) rfl) (List.mem_cons_self) ?_
        refine m_call (pc := 108) (d := d) (d' := 0) (as := [gI (nI S), gI (nI (2 * t))]) (st := [gI (Int32.ofInt 2)]) (idx := 378) (n := 2) Y hOE hrm (by omega) (numberAt_ok _ 0 hS4 (show 2 * t < 60 by omega) m1) rfl (gcw12 (tw 1764 rfl rfl) rfl (by decide) (by decide)) (by rw [ho]; exact tw 1761 rfl rfl) (tw 1763 rfl rfl) (TW_in (List.mem_append_left _ (List.mem_of_getElem? (i := 102) rfl)) rfl) rfl rfl (show 1 + 0 ≤ 8 by decide) rfl (fun r m2 hr => ?_)
        obtain ⟨rfl, rfl⟩ := hr
        rw [hv1]
        show gG X 111 [(3, gI (nI (2 * t))), (2, gI w), (0, gR 166), (1, gI (nI S))] [gL (Int64.ofInt (v1 : Int)), gI (Int32.ofInt 2)] m2
        refine g_l2i (pc := 111) h (hC 111 (.l2i, 1) rfl) ?_
        rw [l2i_small v1 (by omega)]
        refine g_imul (pc := 112) h (hC 112 (.imul, 1) rfl) ?_
        refine g_aload_n (pc := 113) (o := some 166) h (hC 113 (.aload_n 0, 1) rfl) (List.mem_cons_of_mem _ (List.mem_cons_of_mem _ List.mem_cons_self)) ?_
        refine g_iload_n (pc := 114) (x := (nI S)) h (hC 114 (.iload_n 1, 1) rfl) (List.mem_cons_of_mem _ (List.mem_cons_of_mem _ (List.mem_cons_of_mem _ List.mem_cons_self))) ?_
        refine g_iload_n (pc := 115) (x := (nI (2 * t))) h (hC 115 (.iload_n 3, 1) rfl) (List.mem_cons_self) ?_
        refine g_iconst (pc := 116) h (hC 116 (.iconst 1, 1) rfl) ?_
        refine g_iadd (pc := 117) h (hC 117 (.iadd, 1) rfl) ?_
        rw [show nI (2 * t) + Int32.ofInt 1 = nI (2 * t + 1) from nI_add (2 * t) 1]
        refine m_call (pc := 118) (d := d) (d' := 0) (as := [gI (nI S), gI (nI (2 * t + 1))]) (st := [gI (Int32.ofInt 2 * nI v1)]) (idx := 378) (n := 2) Y hOE hrm (by omega) (numberAt_ok _ 0 hS4 (show 2 * t + 1 < 60 by omega) m2) rfl (gcw12 (tw 1764 rfl rfl) rfl (by decide) (by decide)) (by rw [ho]; exact tw 1761 rfl rfl) (tw 1763 rfl rfl) (TW_in (List.mem_append_left _ (List.mem_of_getElem? (i := 102) rfl)) rfl) rfl rfl (show 1 + 0 ≤ 8 by decide) rfl (fun r m3 hr => ?_)
        obtain ⟨rfl, rfl⟩ := hr
        rw [hv2]
        show gG X 121 [(3, gI (nI (2 * t))), (2, gI w), (0, gR 166), (1, gI (nI S))] [gL (Int64.ofInt (v2 : Int)), gI (Int32.ofInt 2 * nI v1)] m3
        refine g_l2i (pc := 121) h (hC 121 (.l2i, 1) rfl) ?_
        rw [l2i_small v2 (by omega)]
        refine g_iadd (pc := 122) h (hC 122 (.iadd, 1) rfl) ?_
        rw [ev]
        refine g_istore (pc := 123) h (hC 123 (.istore 4, 2) rfl) hN4 ?_
        show gG X 125 [(4, gI (nI (2 * v1 + v2))), (3, gI (nI (2 * t))), (2, gI w), (0, gR 166), (1, gI (nI S))] [] m3
        refine g_aload_n (pc := 125) (o := some 166) h (hC 125 (.aload_n 0, 1) rfl) (List.mem_cons_of_mem _ (List.mem_cons_of_mem _ (List.mem_cons_of_mem _ List.mem_cons_self))) ?_
        refine g_iload (pc := 126) (x := (nI (2 * v1 + v2))) h (hC 126 (.iload 4, 2) rfl) (List.mem_cons_self) ?_
        refine g_iload_n (pc := 128) (x := w) h (hC 128 (.iload_n 2, 1) rfl) (List.mem_cons_of_mem _ (List.mem_cons_of_mem _ List.mem_cons_self)) ?_
        refine m_call (pc := 129) (d := d) (d' := d0) (as := [gI (nI (2 * v1 + v2)), gI w]) (st := []) (idx := 403) (n := 2) Y hOE hrm hd (by rw [hl]; exact canSay_ok l d0 hg2 (show 2 * v1 + v2 < 18 by omega) w m3 hp1) rfl (gcw12 (tw 1808 rfl rfl) rfl (by decide) (by decide)) (by rw [ho]; exact tw 1805 rfl rfl) (tw 1807 rfl rfl) (TW_in (List.mem_append_left _ (List.mem_of_getElem? (i := 108) rfl)) rfl) rfl rfl (by decide) rfl (fun r m4 hr => ?_)
        obtain ⟨⟨c, rfl, -, -⟩, rfl⟩ := hr
        show gG X 132 [(4, gI (nI (2 * v1 + v2))), (3, gI (nI (2 * t))), (2, gI w), (0, gR 166), (1, gI (nI S))] [gI c] m4
        refine g_if (pc := 132) (tgt := 139) h (hC 132 (.ifCond .ne 7, 3) rfl) (by decide) (fun _ => ?_) (fun _ => ?_)
        rotate_left
        · refine g_iload_n (pc := 135) (x := (nI (2 * t))) h (hC 135 (.iload_n 3, 1) rfl) (List.mem_cons_of_mem _ List.mem_cons_self) ?_
          refine g_iconst (pc := 136) h (hC 136 (.iconst 2, 1) rfl) ?_
          refine g_idiv (pc := 137) h (hC 137 (.idiv, 1) rfl) (by decide) ?_
          exact g_ireturn (pc := 138) hI rfl (hC 138 (.ireturn, 1) rfl) (post _ m4 hp1 ho1)
        refine g_iload_n (pc := 139) (x := w) h (hC 139 (.iload_n 2, 1) rfl) (List.mem_cons_of_mem _ (List.mem_cons_of_mem _ List.mem_cons_self)) ?_
        refine g_iconst (pc := 140) h (hC 140 (.iconst 1, 1) rfl) ?_
        refine g_iload (pc := 141) (x := (nI (2 * v1 + v2))) h (hC 141 (.iload 4, 2) rfl) (List.mem_cons_self) ?_
        refine g_ishl (pc := 143) h (hC 143 (.ishl, 1) rfl) ?_
        refine g_ior (pc := 144) h (hC 144 (.ior, 1) rfl) ?_
        refine g_istore_n (pc := 145) h (hC 145 (.istore_n 2, 1) rfl) hN2 ?_
        show gG X 146 [(2, gI (w ||| ((Int32.ofInt 1) <<< ((nI (2 * v1 + v2)) &&& 31)))), (4, gI (nI (2 * v1 + v2))), (3, gI (nI (2 * t))), (0, gR 166), (1, gI (nI S))] [] m4
        refine g_iinc (pc := 146) (x := (nI (2 * t))) h (hC 146 (.iinc 3 2, 3) rfl) (List.mem_cons_of_mem _ (List.mem_cons_of_mem _ List.mem_cons_self)) hN3 ?_
        show gG X 149 [(3, gI ((nI (2 * t)) + Int32.ofInt 2)), (2, gI (w ||| ((Int32.ofInt 1) <<< ((nI (2 * v1 + v2)) &&& 31)))), (4, gI (nI (2 * v1 + v2))), (0, gR 166), (1, gI (nI S))] [] m4
        rw [show nI (2 * t) + Int32.ofInt 2 = nI (2 * (t + 1)) from nI_add (2 * t) 2]
        refine g_goto (pc := 149) (tgt := 94) h (hC 149 (.goto (-55), 3) rfl) (by decide) ?_
        refine gG_sub (fun q hq => ?_) (ih (t + 1) (w ||| Int32.ofInt 1 <<< (nI (2 * v1 + v2) &&& 31)) (by omega))
        simp only [List.mem_cons, List.not_mem_nil, or_false] at hq ⊢
        rcases hq with rfl | rfl | rfl | rfl <;> simp
    show gG X 90 [(2, gI (nI (2 * T))), (0, gR 166), (1, gI (nI S))] [] m1
    refine g_iconst (pc := 90) h (hC 90 (.iconst 0, 1) rfl) ?_
    refine g_istore_n (pc := 91) h (hC 91 (.istore_n 2, 1) rfl) hN2 ?_
    show gG X 92 [(2, gI (Int32.ofInt 0)), (0, gR 166), (1, gI (nI S))] [] m1
    refine g_iconst (pc := 92) h (hC 92 (.iconst 0, 1) rfl) ?_
    refine g_istore_n (pc := 93) h (hC 93 (.istore_n 3, 1) rfl) hN3 ?_
    show gG X 94 [(3, gI (Int32.ofInt 0)), (2, gI (Int32.ofInt 0)), (0, gR 166), (1, gI (nI S))] [] m1
    exact loop T 0 0 (by omega)
  have loop1 : ∀ n t, t + n = T → K t → gG X 46 [(2, gI (nI (2 * t))), (0, gR 166), (1, gI (nI S))] [] mu := by
    intro n
    induction n with
    | zero =>
      intro t htn hKt
      refine g_iload_n (pc := 46) (x := (nI (2 * t))) h (hC 46 (.iload_n 2, 1) rfl) (List.mem_cons_self) ?_
      refine g_aload_n (pc := 47) (o := some 166) h (hC 47 (.aload_n 0, 1) rfl) (List.mem_cons_of_mem _ List.mem_cons_self) ?_
      refine m_get (pc := 48) (i := 58) (z := .inr 180) Y (by decide +kernel) rfl ?_
      refine g_iload_n (pc := 51) (x := (nI S)) h (hC 51 (.iload_n 1, 1) rfl) (List.mem_cons_of_mem _ (List.mem_cons_of_mem _ List.mem_cons_self)) ?_
      refine g_iaload (pc := 52) (k := 180) (b := 3440) (n := 4) (i := (nI S)) h (hk 180 (.inr (.inl (0, 3440, 4))) rfl) (vp_in_nI hS4 (by decide)) (hC 52 (.iaload, 1) rfl) ?_
      rw [nI_clamp (show S < 2 ^ 31 by omega), eM]
      refine g_icmp (pc := 53) (tgt := 86) h (hC 53 (.if_icmp .ge 33, 3) rfl) (by decide) (fun _ => ?_) (fun q => absurd ?_ q)
      · obtain rfl : t = T := by omega
        exact tail hKt
      · show nI (2 * T) ≤ nI (2 * t)
        rw [Int32.le_iff_toInt_le, nI_toInt (by omega), nI_toInt (by omega)]
        omega
    | succ n ih =>
      intro t htn hKt
      refine g_iload_n (pc := 46) (x := (nI (2 * t))) h (hC 46 (.iload_n 2, 1) rfl) (List.mem_cons_self) ?_
      refine g_aload_n (pc := 47) (o := some 166) h (hC 47 (.aload_n 0, 1) rfl) (List.mem_cons_of_mem _ List.mem_cons_self) ?_
      refine m_get (pc := 48) (i := 58) (z := .inr 180) Y (by decide +kernel) rfl ?_
      refine g_iload_n (pc := 51) (x := (nI S)) h (hC 51 (.iload_n 1, 1) rfl) (List.mem_cons_of_mem _ (List.mem_cons_of_mem _ List.mem_cons_self)) ?_
      refine g_iaload (pc := 52) (k := 180) (b := 3440) (n := 4) (i := (nI S)) h (hk 180 (.inr (.inl (0, 3440, 4))) rfl) (vp_in_nI hS4 (by decide)) (hC 52 (.iaload, 1) rfl) ?_
      rw [nI_clamp (show S < 2 ^ 31 by omega), eM]
      refine g_icmp (pc := 53) (tgt := 86) h (hC 53 (.if_icmp .ge 33, 3) rfl) (by decide) (fun q => ?_) (fun _ => ?_)
      · exfalso
        have q : nI (2 * T) ≤ nI (2 * t) := q
        rw [Int32.le_iff_toInt_le, nI_toInt (by omega), nI_toInt (by omega)] at q
        omega
      refine g_aload_n (pc := 56) (o := some 166) h (hC 56 (.aload_n 0, 1) rfl) (List.mem_cons_of_mem _ List.mem_cons_self) ?_
      refine g_aload_n (pc := 57) (o := some 166) h (hC 57 (.aload_n 0, 1) rfl) (List.mem_cons_of_mem _ List.mem_cons_self) ?_
      refine g_iload_n (pc := 58) (x := (nI S)) h (hC 58 (.iload_n 1, 1) rfl) (List.mem_cons_of_mem _ (List.mem_cons_of_mem _ List.mem_cons_self)) ?_
      refine g_iload_n (pc := 59) (x := (nI (2 * t))) h (hC 59 (.iload_n 2, 1) rfl) (List.mem_cons_self) ?_
      refine m_call (pc := 60) (d := d) (d' := 0) (as := [gI (nI S), gI (nI (2 * t))]) (st := [gR 166]) (idx := 378) (n := 2) Y hOE hrm (by omega) (numberAt_ok _ 0 hS4 (show 2 * t < 60 by omega) mu) rfl (gcw12 (tw 1764 rfl rfl) rfl (by decide) (by decide)) (by rw [ho]; exact tw 1761 rfl rfl) (tw 1763 rfl rfl) (TW_in (List.mem_append_left _ (List.mem_of_getElem? (i := 102) rfl)) rfl) rfl rfl (show 1 + 0 ≤ 8 by decide) rfl (fun r m2 hr => ?_)
      obtain ⟨rfl, rfl⟩ := hr
      show gG X 63 [(2, gI (nI (2 * t))), (0, gR 166), (1, gI (nI S))] [gL (Int64.ofInt (m2 (3448 + (60 * S + 2 * t)))), gR 166] m2
      refine g_aload_n (pc := 63) (o := some 166) h (hC 63 (.aload_n 0, 1) rfl) (List.mem_cons_of_mem _ List.mem_cons_self) ?_
      refine g_iload_n (pc := 64) (x := (nI S)) h (hC 64 (.iload_n 1, 1) rfl) (List.mem_cons_of_mem _ (List.mem_cons_of_mem _ List.mem_cons_self)) ?_
      refine g_iload_n (pc := 65) (x := (nI (2 * t))) h (hC 65 (.iload_n 2, 1) rfl) (List.mem_cons_self) ?_
      refine g_iconst (pc := 66) h (hC 66 (.iconst 1, 1) rfl) ?_
      refine g_iadd (pc := 67) h (hC 67 (.iadd, 1) rfl) ?_
      rw [show nI (2 * t) + Int32.ofInt 1 = nI (2 * t + 1) from nI_add (2 * t) 1]
      refine m_call (pc := 68) (d := d) (d' := 0) (as := [gI (nI S), gI (nI (2 * t + 1))]) (st := [gL (Int64.ofInt (m2 (3448 + (60 * S + 2 * t)))), gR 166]) (idx := 378) (n := 2) Y hOE hrm (by omega) (numberAt_ok _ 0 hS4 (show 2 * t + 1 < 60 by omega) m2) rfl (gcw12 (tw 1764 rfl rfl) rfl (by decide) (by decide)) (by rw [ho]; exact tw 1761 rfl rfl) (tw 1763 rfl rfl) (TW_in (List.mem_append_left _ (List.mem_of_getElem? (i := 102) rfl)) rfl) rfl rfl (show 2 + (1 + 0) ≤ 8 by decide) rfl (fun r m3 hr => ?_)
      obtain ⟨rfl, rfl⟩ := hr
      have w1 := prof_at hp _ (num_pr (60 * S + 2 * t) (by omega))
      have w2 := prof_at hp _ (num_pr (60 * S + (2 * t + 1)) (by omega))
      have en1 := i64_of w1.1 w1.2
      have en2 := i64_of w2.1 w2.2
      have r1 := i64_range (Int64.ofInt (m3 (3448 + (60 * S + 2 * t))))
      have r2 := i64_range (Int64.ofInt (m3 (3448 + (60 * S + (2 * t + 1)))))
      refine giv_use gW (pc := 71) [gR 166, gL (Int64.ofInt (m3 (3448 + (60 * S + 2 * t)))), gL (Int64.ofInt (m3 (3448 + (60 * S + (2 * t + 1)))))] [] rfl (hC 71 (.invokevirtual 268, 3) rfl) ⟨rfl, ⟨r1.1, r1.2⟩, ⟨r2.1, r2.2⟩, trivial⟩ hp (fun q hq => absurd hq List.not_mem_nil) (by decide) (fun x hx ret mu' hX => ?_)
      simp only [kIsWay, List.mem_cons, List.not_mem_nil, or_false] at hx
      rcases hx with rfl | rfl
      · obtain ⟨z, rfl, hz⟩ := xok_k hX rfl
        obtain rfl := xok_me hX rfl
        refine g_if (pc := 74) (x := z) (tgt := 80) h (hC 74 (.ifCond .ne 6, 3) rfl) (by decide) (fun q => absurd ?_ q) (fun _ => no _ 77 _ _ hp (fun _ _ => rfl) rfl rfl)
        rw [← Int32.toInt_inj, hz]
        rfl
      obtain ⟨z, rfl, hz⟩ := xok_k hX rfl
      obtain ⟨a1, a2⟩ := xok_argL hX (j := 1) (by omega) rfl (List.mem_cons_of_mem _ List.mem_cons_self)
      obtain ⟨b1, b2⟩ := xok_argL hX (j := 2) (by omega) rfl (List.mem_cons_of_mem _ (List.mem_cons_of_mem _ List.mem_cons_self))
      obtain rfl := xok_me hX rfl
      rw [en1] at a1 a2
      rw [en2] at b1 b2
      refine g_if (pc := 74) (x := z) (tgt := 80) h (hC 74 (.ifCond .ne 6, 3) rfl) (by decide) (fun _ => ?_) (fun q => absurd (fun (w : z = 0) => ?_) q)
      rotate_left
      · rw [w] at hz
        exact absurd hz (by decide)
      refine g_iinc (pc := 80) (x := (nI (2 * t))) h (hC 80 (.iinc 2 2, 3) rfl) (List.mem_cons_self) hN2 ?_
      show gG X 83 [(2, gI ((nI (2 * t)) + Int32.ofInt 2)), (0, gR 166), (1, gI (nI S))] [] mu'
      rw [show nI (2 * t) + Int32.ofInt 2 = nI (2 * (t + 1)) from nI_add (2 * t) 2]
      refine g_goto (pc := 83) (tgt := 46) h (hC 83 (.goto (-37), 3) rfl) (by decide) ?_
      refine ih (t + 1) (by omega) (fun u hu => ?_)
      by_cases ut : u = t
      · subst ut
        exact ⟨⟨a1, a2⟩, b1, b2⟩
      · exact hKt u (by omega)
  refine g_iconst (pc := 44) h (hC 44 (.iconst 0, 1) rfl) ?_
  refine g_istore_n (pc := 45) h (hC 45 (.istore_n 2, 1) rfl) hN2 ?_
  show gG X 46 [(2, gI (Int32.ofInt 0)), (0, gR 166), (1, gI (nI S))] [] mu
  exact loop1 T 0 (by omega) (fun u hu => absurd hu (Nat.not_lt_zero u))
